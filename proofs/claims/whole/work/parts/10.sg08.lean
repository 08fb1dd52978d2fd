set_option maxRecDepth 20000 in
theorem s_X11_scorched_0 {d : Nat} (hd : 1 ≤ d) {Q : Option ax_V → ax_S → Prop} (σ : ax_S) (a0 : Int32) (a1 : Int32) (a2 : Int32) (a3 : Int32) (k1 : (¬ ((¬ (a0 < 0)) ∧ (¬ ((σ.1 5 9) ≤ a0)))) → Q (some (ax_i (-1 : Int32))) σ) (k2 : ((¬ (a0 < 0)) ∧ (¬ ((σ.1 5 9) ≤ a0))) → (¬ ((¬ (a2 < 0)) ∧ (¬ ((σ.1 5 9) ≤ a2)))) → Q (some (ax_i (-1 : Int32))) σ) (k3 : ((¬ (a0 < 0)) ∧ (¬ ((σ.1 5 9) ≤ a0))) → ((¬ (a2 < 0)) ∧ (¬ ((σ.1 5 9) ≤ a2))) → (¬ ((¬ (a1 < (1 : Int32))) ∧ (¬ ((999 : Int32) < a1)))) → Q (some (ax_i (-1 : Int32))) σ) (k4 : ((¬ (a0 < 0)) ∧ (¬ ((σ.1 5 9) ≤ a0))) → ((¬ (a2 < 0)) ∧ (¬ ((σ.1 5 9) ≤ a2))) → ((¬ (a1 < (1 : Int32))) ∧ (¬ ((999 : Int32) < a1))) → ((σ.1 9 4) < (10 : Int32)) → ax_Ct shC d mX3_add [ax_r 9, ax_i a0, ax_i a1, ax_i a2, ax_i a3] (fun r u => r = none ∧ ax_W shC (d + 1) mX11_scorched Q 49 [some (ax_r 0), none, none, none, none] [] u) σ) (k5 : ((¬ (a0 < 0)) ∧ (¬ ((σ.1 5 9) ≤ a0))) → ((¬ (a2 < 0)) ∧ (¬ ((σ.1 5 9) ≤ a2))) → ((¬ (a1 < (1 : Int32))) ∧ (¬ ((999 : Int32) < a1))) → (¬ ((σ.1 9 4) < (10 : Int32))) → Q (some (ax_i (-1 : Int32))) σ) : ax_W shC (d + 1) mX11_scorched Q 0 [some (ax_r 0), some (ax_i a0), some (ax_i a1), some (ax_i a2), some (ax_i a3)] [] σ := by
  refine ax_aload_n (q := 1) (i := 0) dX11_scorched_0 rfl rfl rfl ?_
  refine ax_iload_n (q := 2) (i := 1) dX11_scorched_1 rfl rfl rfl ?_
  refine ax_callVfi (q := 5) (As := [ax_i a0]) (st := []) (x := (if ((¬ (a0 < 0)) ∧ (¬ ((σ.1 5 9) ≤ a0))) then (1 : Int32) else 0)) (σ2 := σ) dX11_scorched_2 rfl lk_X11_160 shC_0 rfl rfl rfl rfl (Nat.le_of_ble_eq_true rfl) (f_X11_isHouse σ a0  (d := d) (by omega)) ?_
  refine ax_if_eqB (tgt := 35) (q := 8) dX11_scorched_5 (by decide) rfl (fun c1 => ?_) (fun c1 => ?_)
  · refine ax_iconst (q := 36) dX11_scorched_35 rfl ki_m1 ?_
    exact ax_iret dX11_scorched_36 rfl rfl (k1 c1)
  · refine ax_aload_n (q := 9) (i := 0) dX11_scorched_8 rfl rfl rfl ?_
    refine ax_iload_n (q := 10) (i := 3) dX11_scorched_9 rfl rfl rfl ?_
    refine ax_callVfi (q := 13) (As := [ax_i a2]) (st := []) (x := (if ((¬ (a2 < 0)) ∧ (¬ ((σ.1 5 9) ≤ a2))) then (1 : Int32) else 0)) (σ2 := σ) dX11_scorched_10 rfl lk_X11_160 shC_0 rfl rfl rfl rfl (Nat.le_of_ble_eq_true rfl) (f_X11_isHouse σ a2  (d := d) (by omega)) ?_
    refine ax_if_eqB (tgt := 35) (q := 16) dX11_scorched_13 (by decide) rfl (fun c2 => ?_) (fun c2 => ?_)
    · refine ax_iconst (q := 36) dX11_scorched_35 rfl ki_m1 ?_
      exact ax_iret dX11_scorched_36 rfl rfl (k2 c1 c2)
    · refine ax_iload_n (q := 17) (i := 2) dX11_scorched_16 rfl rfl rfl ?_
      refine ax_callSfi (q := 20) (As := [ax_i a1]) (st := []) (x := (if ((¬ (a1 < (1 : Int32))) ∧ (¬ ((999 : Int32) < a1))) then (1 : Int32) else 0)) (σ2 := σ) dX11_scorched_17 rfl lk_X11_245 rfl rfl (Nat.le_of_ble_eq_true rfl) (f_X11_isStroke (sh := shC) σ a1  (d := d) (by omega)) ?_
      refine ax_if_eqB (tgt := 35) (q := 23) dX11_scorched_20 (by decide) rfl (fun c3 => ?_) (fun c3 => ?_)
      · refine ax_iconst (q := 36) dX11_scorched_35 rfl ki_m1 ?_
        exact ax_iret dX11_scorched_36 rfl rfl (k3 c1 c2 c3)
      · refine ax_aload_n (q := 24) (i := 0) dX11_scorched_23 rfl rfl rfl ?_
        refine ax_get (q := 27) (k := 0) (j := 8) (v := ax_r 9) dX11_scorched_24 rfl shC_0 rfl rfl rfl (by decide) fl_X11_72 ?_
        refine ax_get (q := 30) (k := 9) (j := 4) (v := ax_i (σ.1 9 4)) dX11_scorched_27 rfl shC_9 rfl rfl rfl (by decide) fl_X11_146 ?_
        refine ax_bipush (q := 32) dX11_scorched_30 rfl kb_10 ?_
        refine ax_icmp_lt (tgt := 37) (q := 35) dX11_scorched_32 (by decide) rfl (fun c4 => ?_) (fun c4 => ?_)
        · refine ax_aload_n (q := 38) (i := 0) dX11_scorched_37 rfl rfl rfl ?_
          refine ax_get (q := 41) (k := 0) (j := 8) (v := ax_r 9) dX11_scorched_38 rfl shC_0 rfl rfl rfl (by decide) fl_X11_72 ?_
          refine ax_iload_n (q := 42) (i := 1) dX11_scorched_41 rfl rfl rfl ?_
          refine ax_iload_n (q := 43) (i := 2) dX11_scorched_42 rfl rfl rfl ?_
          refine ax_iload_n (q := 44) (i := 3) dX11_scorched_43 rfl rfl rfl ?_
          refine ax_iload (q := 46) dX11_scorched_44 rfl rfl ?_
          refine ax_fg (lv2 := [some (ax_r 0), none, none, none, none]) ⟨rfl, trivial⟩ ?_
          exact ax_callVcv (q := 49) (As := [ax_i a0, ax_i a1, ax_i a2, ax_i a3]) (st := []) dX11_scorched_46 rfl lk_X11_403 shC_9 rfl rfl rfl rfl (Nat.le_of_ble_eq_true rfl) (k4 c1 c2 c3 c4)
        · refine ax_iconst (q := 36) dX11_scorched_35 rfl ki_m1 ?_
          exact ax_iret dX11_scorched_36 rfl rfl (k5 c1 c2 c3 c4)
set_option maxRecDepth 20000 in
theorem s_X11_scorched_49 {d : Nat} (hd : 0 ≤ d) {Q : Option ax_V → ax_S → Prop} (σ : ax_S)  (k1 : Q (some (ax_i (σ.1 9 4))) σ) : ax_W shC (d + 1) mX11_scorched Q 49 [some (ax_r 0), none, none, none, none] [] σ := by
  refine ax_aload_n (q := 50) (i := 0) dX11_scorched_49 rfl rfl rfl ?_
  refine ax_get (q := 53) (k := 0) (j := 8) (v := ax_r 9) dX11_scorched_50 rfl shC_0 rfl rfl rfl (by decide) fl_X11_72 ?_
  refine ax_get (q := 56) (k := 9) (j := 4) (v := ax_i (σ.1 9 4)) dX11_scorched_53 rfl shC_9 rfl rfl rfl (by decide) fl_X11_146 ?_
  exact ax_iret dX11_scorched_56 rfl rfl k1
set_option maxRecDepth 20000 in
theorem s_X11_allSo_0 {d : Nat} (hd : 0 ≤ d) {Q : Option ax_V → ax_S → Prop} (σ : ax_S) (a0 : Int32) (k1 : ax_W shC (d + 1) mX11_allSo Q 2 [some (ax_r 0), some (ax_i a0), some (ax_i (0 : Int32)), none] [] σ) : ax_W shC (d + 1) mX11_allSo Q 0 [some (ax_r 0), some (ax_i a0), none, none] [] σ := by
  refine ax_iconst (q := 1) dX11_allSo_0 rfl ki_0 ?_
  refine ax_istore_n (q := 2) (i := 2) (lv2 := [some (ax_r 0), some (ax_i a0), some (ax_i (0 : Int32)), none]) dX11_allSo_1 rfl rfl (by decide) rfl rfl ?_
  exact k1
set_option maxRecDepth 20000 in
theorem s_X11_allSo_2 {d : Nat} (hd : 0 ≤ d) {Q : Option ax_V → ax_S → Prop} (σ : ax_S) (x1 : Int32) (x2 : Int32) (k1 : ((σ.1 9 4) ≤ x2) → Q (some (ax_i (1 : Int32))) σ) (h2 : (¬ ((σ.1 9 4) ≤ x2)) → vp_in x2 10) (k3 : (¬ ((σ.1 9 4) ≤ x2)) → ax_Ct shC d mX8_fall [ax_r 6, ax_i x1, ax_i (σ.1 39 (Int32.toNatClampNeg x2)), ax_i (σ.1 40 (Int32.toNatClampNeg x2))] (fun r u => ∃ x : Int32, r = some (ax_i x) ∧ ax_W shC (d + 1) mX11_allSo Q 39 [some (ax_r 0), some (ax_i x1), some (ax_i x2), none] (ax_i x :: []) u) σ) : ax_W shC (d + 1) mX11_allSo Q 2 [some (ax_r 0), some (ax_i x1), some (ax_i x2), none] [] σ := by
  refine ax_iload_n (q := 3) (i := 2) dX11_allSo_2 rfl rfl rfl ?_
  refine ax_aload_n (q := 4) (i := 0) dX11_allSo_3 rfl rfl rfl ?_
  refine ax_get (q := 7) (k := 0) (j := 8) (v := ax_r 9) dX11_allSo_4 rfl shC_0 rfl rfl rfl (by decide) fl_X11_72 ?_
  refine ax_get (q := 10) (k := 9) (j := 4) (v := ax_i (σ.1 9 4)) dX11_allSo_7 rfl shC_9 rfl rfl rfl (by decide) fl_X11_146 ?_
  refine ax_icmp_ge (tgt := 73) (q := 13) dX11_allSo_10 (by decide) rfl (fun c1 => ?_) (fun c1 => ?_)
  · refine ax_iconst (q := 74) dX11_allSo_73 rfl ki_1 ?_
    exact ax_iret dX11_allSo_74 rfl rfl (k1 c1)
  · refine ax_aload_n (q := 14) (i := 0) dX11_allSo_13 rfl rfl rfl ?_
    refine ax_get (q := 17) (k := 0) (j := 5) (v := ax_r 6) dX11_allSo_14 rfl shC_0 rfl rfl rfl (by decide) fl_X11_51 ?_
    refine ax_iload_n (q := 18) (i := 1) dX11_allSo_17 rfl rfl rfl ?_
    refine ax_aload_n (q := 19) (i := 0) dX11_allSo_18 rfl rfl rfl ?_
    refine ax_get (q := 22) (k := 0) (j := 8) (v := ax_r 9) dX11_allSo_19 rfl shC_0 rfl rfl rfl (by decide) fl_X11_72 ?_
    refine ax_get (q := 25) (k := 9) (j := 0) (v := ax_r 39) dX11_allSo_22 rfl shC_9 rfl rfl rfl (by decide) fl_X11_460 ?_
    refine ax_iload_n (q := 26) (i := 2) dX11_allSo_25 rfl rfl rfl ?_
    refine ax_iald (q := 27) (a := (Int32.toNatClampNeg x2)) (v := (σ.1 39 (Int32.toNatClampNeg x2))) dX11_allSo_26 rfl shC_39 (h2 c1) rfl rfl ?_
    refine ax_aload_n (q := 28) (i := 0) dX11_allSo_27 rfl rfl rfl ?_
    refine ax_get (q := 31) (k := 0) (j := 8) (v := ax_r 9) dX11_allSo_28 rfl shC_0 rfl rfl rfl (by decide) fl_X11_72 ?_
    refine ax_get (q := 34) (k := 9) (j := 1) (v := ax_r 40) dX11_allSo_31 rfl shC_9 rfl rfl rfl (by decide) fl_X11_463 ?_
    refine ax_iload_n (q := 35) (i := 2) dX11_allSo_34 rfl rfl rfl ?_
    refine ax_iald (q := 36) (a := (Int32.toNatClampNeg x2)) (v := (σ.1 40 (Int32.toNatClampNeg x2))) dX11_allSo_35 rfl shC_40 (h2 c1) rfl rfl ?_
    exact ax_callVci (q := 39) (As := [ax_i x1, ax_i (σ.1 39 (Int32.toNatClampNeg x2)), ax_i (σ.1 40 (Int32.toNatClampNeg x2))]) (st := []) dX11_allSo_36 rfl lk_X11_311 shC_6 rfl rfl rfl rfl (Nat.le_of_ble_eq_true rfl) (k3 c1)
set_option maxRecDepth 20000 in
theorem s_X11_allSo_39 {d : Nat} (hd : 1 ≤ d) {Q : Option ax_V → ax_S → Prop} (σ : ax_S) (x1 : Int32) (x2 : Int32) (rr : Int32) (h1 : vp_in x2 10) (k2 : (((rr >>> ((σ.1 41 (Int32.toNatClampNeg x2)) &&& 31)) &&& (1 : Int32)) = (σ.1 42 (Int32.toNatClampNeg x2))) → ax_W shC (d + 1) mX11_allSo Q 2 [some (ax_r 0), some (ax_i x1), some (ax_i (x2 + (1 : Int32))), none] [] σ) (k3 : (¬ (((rr >>> ((σ.1 41 (Int32.toNatClampNeg x2)) &&& 31)) &&& (1 : Int32)) = (σ.1 42 (Int32.toNatClampNeg x2)))) → Q (some (ax_i (0 : Int32))) σ) : ax_W shC (d + 1) mX11_allSo Q 39 [some (ax_r 0), some (ax_i x1), some (ax_i x2), none] [ax_i rr] σ := by
  refine ax_istore_n (q := 40) (i := 3) (lv2 := [some (ax_r 0), some (ax_i x1), some (ax_i x2), some (ax_i rr)]) dX11_allSo_39 rfl rfl (by decide) rfl rfl ?_
  refine ax_iload_n (q := 41) (i := 3) dX11_allSo_40 rfl rfl rfl ?_
  refine ax_aload_n (q := 42) (i := 0) dX11_allSo_41 rfl rfl rfl ?_
  refine ax_get (q := 45) (k := 0) (j := 8) (v := ax_r 9) dX11_allSo_42 rfl shC_0 rfl rfl rfl (by decide) fl_X11_72 ?_
  refine ax_get (q := 48) (k := 9) (j := 2) (v := ax_r 41) dX11_allSo_45 rfl shC_9 rfl rfl rfl (by decide) fl_X11_466 ?_
  refine ax_iload_n (q := 49) (i := 2) dX11_allSo_48 rfl rfl rfl ?_
  refine ax_iald (q := 50) (a := (Int32.toNatClampNeg x2)) (v := (σ.1 41 (Int32.toNatClampNeg x2))) dX11_allSo_49 rfl shC_41 h1 rfl rfl ?_
  refine ax_callSfi (q := 53) (As := [ax_i rr, ax_i (σ.1 41 (Int32.toNatClampNeg x2))]) (st := []) (x := ((rr >>> ((σ.1 41 (Int32.toNatClampNeg x2)) &&& 31)) &&& (1 : Int32))) (σ2 := σ) dX11_allSo_50 rfl lk_X11_215 rfl rfl (Nat.le_of_ble_eq_true rfl) (f_X11_bitOf (sh := shC) σ rr (σ.1 41 (Int32.toNatClampNeg x2))  (d := d) (by omega)) ?_
  refine ax_aload_n (q := 54) (i := 0) dX11_allSo_53 rfl rfl rfl ?_
  refine ax_get (q := 57) (k := 0) (j := 8) (v := ax_r 9) dX11_allSo_54 rfl shC_0 rfl rfl rfl (by decide) fl_X11_72 ?_
  refine ax_get (q := 60) (k := 9) (j := 3) (v := ax_r 42) dX11_allSo_57 rfl shC_9 rfl rfl rfl (by decide) fl_X11_469 ?_
  refine ax_iload_n (q := 61) (i := 2) dX11_allSo_60 rfl rfl rfl ?_
  refine ax_iald (q := 62) (a := (Int32.toNatClampNeg x2)) (v := (σ.1 42 (Int32.toNatClampNeg x2))) dX11_allSo_61 rfl shC_42 h1 rfl rfl ?_
  refine ax_icmp_eq (tgt := 67) (q := 65) dX11_allSo_62 (by decide) rfl (fun c1 => ?_) (fun c1 => ?_)
  · refine ax_iincK (q := 70) (lv2 := [some (ax_r 0), some (ax_i x1), some (ax_i (x2 + (1 : Int32))), some (ax_i rr)]) dX11_allSo_67 rfl rfl ki_1 (by decide) rfl rfl ?_
    refine ax_goto (tgt := 2) dX11_allSo_70 (by decide) ?_
    refine ax_fg (lv2 := [some (ax_r 0), some (ax_i x1), some (ax_i (x2 + (1 : Int32))), none]) ⟨rfl, rfl, rfl, trivial⟩ ?_
    exact (k2 c1)
  · refine ax_iconst (q := 66) dX11_allSo_65 rfl ki_0 ?_
    exact ax_iret dX11_allSo_66 rfl rfl (k3 c1)
set_option maxRecDepth 20000 in
theorem s_X11_gatherFitting_0 {d : Nat} (hd : 0 ≤ d) {Q : Option ax_V → ax_S → Prop} (σ : ax_S) (a0 : Int32) (k1 : ax_Ct shC d mX0_live [ax_r 5] (fun r u => ∃ x : Int32, r = some (ax_i x) ∧ ax_W shC (d + 1) mX11_gatherFitting Q 7 [some (ax_r 0), some (ax_i a0), none, none, none] (ax_i x :: []) u) σ) : ax_W shC (d + 1) mX11_gatherFitting Q 0 [some (ax_r 0), some (ax_i a0), none, none, none] [] σ := by
  refine ax_aload_n (q := 1) (i := 0) dX11_gatherFitting_0 rfl rfl rfl ?_
  refine ax_get (q := 4) (k := 0) (j := 4) (v := ax_r 5) dX11_gatherFitting_1 rfl shC_0 rfl rfl rfl (by decide) fl_X11_42 ?_
  exact ax_callVci (q := 7) (As := []) (st := []) dX11_gatherFitting_4 rfl lk_X11_185 shC_5 rfl rfl rfl rfl (Nat.le_of_ble_eq_true rfl) k1
set_option maxRecDepth 20000 in
theorem s_X11_gatherFitting_7 {d : Nat} (hd : 0 ≤ d) {Q : Option ax_V → ax_S → Prop} (σ : ax_S) (x1 : Int32) (rr : Int32) (k1 : ax_Ct shC d mX10_gather [ax_r 11, ax_i rr, ax_i x1] (fun r u => r = none ∧ ax_W shC (d + 1) mX11_gatherFitting Q 17 [some (ax_r 0), none, some (ax_i rr), none, none] [] u) σ) : ax_W shC (d + 1) mX11_gatherFitting Q 7 [some (ax_r 0), some (ax_i x1), none, none, none] [ax_i rr] σ := by
  refine ax_istore_n (q := 8) (i := 2) (lv2 := [some (ax_r 0), some (ax_i x1), some (ax_i rr), none, none]) dX11_gatherFitting_7 rfl rfl (by decide) rfl rfl ?_
  refine ax_aload_n (q := 9) (i := 0) dX11_gatherFitting_8 rfl rfl rfl ?_
  refine ax_get (q := 12) (k := 0) (j := 10) (v := ax_r 11) dX11_gatherFitting_9 rfl shC_0 rfl rfl rfl (by decide) fl_X11_88 ?_
  refine ax_iload_n (q := 13) (i := 2) dX11_gatherFitting_12 rfl rfl rfl ?_
  refine ax_iload_n (q := 14) (i := 1) dX11_gatherFitting_13 rfl rfl rfl ?_
  refine ax_fg (lv2 := [some (ax_r 0), none, some (ax_i rr), none, none]) ⟨rfl, rfl, trivial⟩ ?_
  exact ax_callVcv (q := 17) (As := [ax_i rr, ax_i x1]) (st := []) dX11_gatherFitting_14 rfl lk_X11_330 shC_11 rfl rfl rfl rfl (Nat.le_of_ble_eq_true rfl) k1
set_option maxRecDepth 20000 in
theorem s_X11_gatherFitting_17 {d : Nat} (hd : 0 ≤ d) {Q : Option ax_V → ax_S → Prop} (σ : ax_S) (x2 : Int32) (k1 : ax_W shC (d + 1) mX11_gatherFitting Q 22 [some (ax_r 0), none, some (ax_i x2), some (ax_i (0 : Int32)), some (ax_i (0 : Int32))] [] σ) : ax_W shC (d + 1) mX11_gatherFitting Q 17 [some (ax_r 0), none, some (ax_i x2), none, none] [] σ := by
  refine ax_iconst (q := 18) dX11_gatherFitting_17 rfl ki_0 ?_
  refine ax_istore_n (q := 19) (i := 3) (lv2 := [some (ax_r 0), none, some (ax_i x2), some (ax_i (0 : Int32)), none]) dX11_gatherFitting_18 rfl rfl (by decide) rfl rfl ?_
  refine ax_iconst (q := 20) dX11_gatherFitting_19 rfl ki_0 ?_
  refine ax_istore (q := 22) (lv2 := [some (ax_r 0), none, some (ax_i x2), some (ax_i (0 : Int32)), some (ax_i (0 : Int32))]) dX11_gatherFitting_20 rfl (by decide) rfl rfl ?_
  exact k1
set_option maxRecDepth 20000 in
theorem s_X11_gatherFitting_22 {d : Nat} (hd : 0 ≤ d) {Q : Option ax_V → ax_S → Prop} (σ : ax_S) (x2 : Int32) (x3 : Int32) (x4 : Int32) (k1 : ((σ.1 11 1) ≤ x4) → Q none (ax_ui σ 11 1 x3)) (h2 : (¬ ((σ.1 11 1) ≤ x4)) → vp_in x4 120) (k3 : (¬ ((σ.1 11 1) ≤ x4)) → ax_Ct shC d mX11_allSo [ax_r 0, ax_i (x2 &&& ((σ.1 44 (Int32.toNatClampNeg x4)) ^^^ (-1 : Int32)))] (fun r u => ∃ x : Int32, r = some (ax_i x) ∧ ax_W shC (d + 1) mX11_gatherFitting Q 52 [some (ax_r 0), none, some (ax_i x2), some (ax_i x3), some (ax_i x4)] (ax_i x :: []) u) σ) : ax_W shC (d + 1) mX11_gatherFitting Q 22 [some (ax_r 0), none, some (ax_i x2), some (ax_i x3), some (ax_i x4)] [] σ := by
  refine ax_iload (q := 24) dX11_gatherFitting_22 rfl rfl ?_
  refine ax_aload_n (q := 25) (i := 0) dX11_gatherFitting_24 rfl rfl rfl ?_
  refine ax_get (q := 28) (k := 0) (j := 10) (v := ax_r 11) dX11_gatherFitting_25 rfl shC_0 rfl rfl rfl (by decide) fl_X11_88 ?_
  refine ax_get (q := 31) (k := 11) (j := 1) (v := ax_i (σ.1 11 1)) dX11_gatherFitting_28 rfl shC_11 rfl rfl rfl (by decide) fl_X11_333 ?_
  refine ax_icmp_ge (tgt := 83) (q := 34) dX11_gatherFitting_31 (by decide) rfl (fun c1 => ?_) (fun c1 => ?_)
  · refine ax_aload_n (q := 84) (i := 0) dX11_gatherFitting_83 rfl rfl rfl ?_
    refine ax_get (q := 87) (k := 0) (j := 10) (v := ax_r 11) dX11_gatherFitting_84 rfl shC_0 rfl rfl rfl (by decide) fl_X11_88 ?_
    refine ax_iload_n (q := 88) (i := 3) dX11_gatherFitting_87 rfl rfl rfl ?_
    refine ax_puti (q := 91) (k := 11) (j := 1) dX11_gatherFitting_88 rfl shC_11 rfl rfl (by decide) fl_X11_333 rfl rfl rfl rfl ?_
    exact ax_vret dX11_gatherFitting_91 rfl (k1 c1)
  · refine ax_aload_n (q := 35) (i := 0) dX11_gatherFitting_34 rfl rfl rfl ?_
    refine ax_iload_n (q := 36) (i := 2) dX11_gatherFitting_35 rfl rfl rfl ?_
    refine ax_aload_n (q := 37) (i := 0) dX11_gatherFitting_36 rfl rfl rfl ?_
    refine ax_get (q := 40) (k := 0) (j := 10) (v := ax_r 11) dX11_gatherFitting_37 rfl shC_0 rfl rfl rfl (by decide) fl_X11_88 ?_
    refine ax_get (q := 43) (k := 11) (j := 0) (v := ax_r 44) dX11_gatherFitting_40 rfl shC_11 rfl rfl rfl (by decide) fl_X11_336 ?_
    refine ax_iload (q := 45) dX11_gatherFitting_43 rfl rfl ?_
    refine ax_iald (q := 46) (a := (Int32.toNatClampNeg x4)) (v := (σ.1 44 (Int32.toNatClampNeg x4))) dX11_gatherFitting_45 rfl shC_44 (h2 c1) rfl rfl ?_
    refine ax_iconst (q := 47) dX11_gatherFitting_46 rfl ki_m1 ?_
    refine ax_ixor (q := 48) dX11_gatherFitting_47 rfl ?_
    refine ax_iand (q := 49) dX11_gatherFitting_48 rfl ?_
    exact ax_callVci (q := 52) (As := [ax_i (x2 &&& ((σ.1 44 (Int32.toNatClampNeg x4)) ^^^ (-1 : Int32)))]) (st := []) dX11_gatherFitting_49 rfl lk_X11_457 shC_0 rfl rfl rfl rfl (Nat.le_of_ble_eq_true rfl) (k3 c1)
set_option maxRecDepth 20000 in
theorem s_X11_gatherFitting_52 {d : Nat} (hd : 0 ≤ d) {Q : Option ax_V → ax_S → Prop} (σ : ax_S) (x2 : Int32) (x3 : Int32) (x4 : Int32) (rr : Int32) (k1 : (rr = 0) → ax_W shC (d + 1) mX11_gatherFitting Q 22 [some (ax_r 0), none, some (ax_i x2), some (ax_i x3), some (ax_i (x4 + (1 : Int32)))] [] σ) (h2 : (¬ (rr = 0)) → vp_in x4 120) (h3 : (¬ (rr = 0)) → vp_in x3 120) (k4 : (¬ (rr = 0)) → ax_W shC (d + 1) mX11_gatherFitting Q 22 [some (ax_r 0), none, some (ax_i x2), some (ax_i (x3 + (1 : Int32))), some (ax_i (x4 + (1 : Int32)))] [] (ax_ui σ 44 (Int32.toNatClampNeg x3) (σ.1 44 (Int32.toNatClampNeg x4)))) : ax_W shC (d + 1) mX11_gatherFitting Q 52 [some (ax_r 0), none, some (ax_i x2), some (ax_i x3), some (ax_i x4)] [ax_i rr] σ := by
  refine ax_if_eq (tgt := 77) (q := 55) dX11_gatherFitting_52 (by decide) rfl (fun c1 => ?_) (fun c1 => ?_)
  · refine ax_iincK (q := 80) (lv2 := [some (ax_r 0), none, some (ax_i x2), some (ax_i x3), some (ax_i (x4 + (1 : Int32)))]) dX11_gatherFitting_77 rfl rfl ki_1 (by decide) rfl rfl ?_
    refine ax_goto (tgt := 22) dX11_gatherFitting_80 (by decide) ?_
    exact (k1 c1)
  · refine ax_aload_n (q := 56) (i := 0) dX11_gatherFitting_55 rfl rfl rfl ?_
    refine ax_get (q := 59) (k := 0) (j := 10) (v := ax_r 11) dX11_gatherFitting_56 rfl shC_0 rfl rfl rfl (by decide) fl_X11_88 ?_
    refine ax_get (q := 62) (k := 11) (j := 0) (v := ax_r 44) dX11_gatherFitting_59 rfl shC_11 rfl rfl rfl (by decide) fl_X11_336 ?_
    refine ax_iload_n (q := 63) (i := 3) dX11_gatherFitting_62 rfl rfl rfl ?_
    refine ax_aload_n (q := 64) (i := 0) dX11_gatherFitting_63 rfl rfl rfl ?_
    refine ax_get (q := 67) (k := 0) (j := 10) (v := ax_r 11) dX11_gatherFitting_64 rfl shC_0 rfl rfl rfl (by decide) fl_X11_88 ?_
    refine ax_get (q := 70) (k := 11) (j := 0) (v := ax_r 44) dX11_gatherFitting_67 rfl shC_11 rfl rfl rfl (by decide) fl_X11_336 ?_
    refine ax_iload (q := 72) dX11_gatherFitting_70 rfl rfl ?_
    refine ax_iald (q := 73) (a := (Int32.toNatClampNeg x4)) (v := (σ.1 44 (Int32.toNatClampNeg x4))) dX11_gatherFitting_72 rfl shC_44 (h2 c1) rfl rfl ?_
    refine ax_iast (q := 74) (a := (Int32.toNatClampNeg x3)) dX11_gatherFitting_73 rfl shC_44 (h3 c1) rfl ?_
    refine ax_iincK (q := 77) (lv2 := [some (ax_r 0), none, some (ax_i x2), some (ax_i (x3 + (1 : Int32))), some (ax_i x4)]) dX11_gatherFitting_74 rfl rfl ki_1 (by decide) rfl rfl ?_
    refine ax_iincK (q := 80) (lv2 := [some (ax_r 0), none, some (ax_i x2), some (ax_i (x3 + (1 : Int32))), some (ax_i (x4 + (1 : Int32)))]) dX11_gatherFitting_77 rfl rfl ki_1 (by decide) rfl rfl ?_
    refine ax_goto (tgt := 22) dX11_gatherFitting_80 (by decide) ?_
    exact (k4 c1)
set_option maxRecDepth 20000 in
theorem s_X11_who_0 {d : Nat} (hd : 1 ≤ d) {Q : Option ax_V → ax_S → Prop} (σ : ax_S) (a0 : Int32) (a1 : Int32) (k1 : (¬ (¬ ((σ.1 5 9) ≤ 0))) → Q (some (ax_i (-1 : Int32))) σ) (k2 : (¬ ((σ.1 5 9) ≤ 0)) → (a0 < 0) → Q (some (ax_i (-1 : Int32))) σ) (k3 : (¬ ((σ.1 5 9) ≤ 0)) → (¬ (a0 < 0)) → (a0 ≤ (2 : Int32)) → ax_Ct shC d mX11_gatherFitting [ax_r 0, ax_i a0] (fun r u => r = none ∧ ax_W shC (d + 1) mX11_who Q 23 [some (ax_r 0), none, some (ax_i a1)] [] u) σ) (k4 : (¬ ((σ.1 5 9) ≤ 0)) → (¬ (a0 < 0)) → (¬ (a0 ≤ (2 : Int32))) → Q (some (ax_i (-1 : Int32))) σ) : ax_W shC (d + 1) mX11_who Q 0 [some (ax_r 0), some (ax_i a0), some (ax_i a1)] [] σ := by
  refine ax_aload_n (q := 1) (i := 0) dX11_who_0 rfl rfl rfl ?_
  refine ax_callVfi (q := 4) (As := []) (st := []) (x := (if (¬ ((σ.1 5 9) ≤ 0)) then (1 : Int32) else 0)) (σ2 := σ) dX11_who_1 rfl lk_X11_274 shC_0 rfl rfl rfl rfl (Nat.le_of_ble_eq_true rfl) (f_X11_hasBelt σ   (d := d) (by omega)) ?_
  refine ax_if_eqB (tgt := 16) (q := 7) dX11_who_4 (by decide) rfl (fun c1 => ?_) (fun c1 => ?_)
  · refine ax_iconst (q := 17) dX11_who_16 rfl ki_m1 ?_
    exact ax_iret dX11_who_17 rfl rfl (k1 c1)
  · refine ax_iload_n (q := 8) (i := 1) dX11_who_7 rfl rfl rfl ?_
    refine ax_if_lt (tgt := 16) (q := 11) dX11_who_8 (by decide) rfl (fun c2 => ?_) (fun c2 => ?_)
    · refine ax_iconst (q := 17) dX11_who_16 rfl ki_m1 ?_
      exact ax_iret dX11_who_17 rfl rfl (k2 c1 c2)
    · refine ax_iload_n (q := 12) (i := 1) dX11_who_11 rfl rfl rfl ?_
      refine ax_iconst (q := 13) dX11_who_12 rfl ki_2 ?_
      refine ax_icmp_le (tgt := 18) (q := 16) dX11_who_13 (by decide) rfl (fun c3 => ?_) (fun c3 => ?_)
      · refine ax_aload_n (q := 19) (i := 0) dX11_who_18 rfl rfl rfl ?_
        refine ax_iload_n (q := 20) (i := 1) dX11_who_19 rfl rfl rfl ?_
        refine ax_fg (lv2 := [some (ax_r 0), none, some (ax_i a1)]) ⟨rfl, rfl, trivial⟩ ?_
        exact ax_callVcv (q := 23) (As := [ax_i a0]) (st := []) dX11_who_20 rfl lk_X11_406 shC_0 rfl rfl rfl rfl (Nat.le_of_ble_eq_true rfl) (k3 c1 c2 c3)
      · refine ax_iconst (q := 17) dX11_who_16 rfl ki_m1 ?_
        exact ax_iret dX11_who_17 rfl rfl (k4 c1 c2 c3)
set_option maxRecDepth 20000 in
theorem s_X11_who_23 {d : Nat} (hd : 0 ≤ d) {Q : Option ax_V → ax_S → Prop} (σ : ax_S) (x2 : Int32) (h1 : (¬ x2 = (-1 : Int32)) → (¬ (x2 < 0)) → (x2 < (σ.1 11 1)) → vp_in x2 120) (k2 : (¬ x2 = (-1 : Int32)) → Q (some (ax_i (if (x2 < 0) then (-1 : Int32) else (if (x2 < (σ.1 11 1)) then (σ.1 44 (Int32.toNatClampNeg x2)) else (-1 : Int32))))) σ) (k3 : (¬ (¬ x2 = (-1 : Int32))) → Q (some (ax_i (σ.1 11 1))) σ) : ax_W shC (d + 1) mX11_who Q 23 [some (ax_r 0), none, some (ax_i x2)] [] σ := by
  refine ax_iload_n (q := 24) (i := 2) dX11_who_23 rfl rfl rfl ?_
  refine ax_iconst (q := 25) dX11_who_24 rfl ki_m1 ?_
  refine ax_icmp_ne (tgt := 36) (q := 28) dX11_who_25 (by decide) rfl (fun c1 => ?_) (fun c1 => ?_)
  · refine ax_iload_n (q := 37) (i := 2) dX11_who_36 rfl rfl rfl ?_
    have K4 : ax_W shC (d + 1) mX11_who Q 64 [some (ax_r 0), none, some (ax_i x2)] [ax_i (if (x2 < 0) then (-1 : Int32) else (if (x2 < (σ.1 11 1)) then (σ.1 44 (Int32.toNatClampNeg x2)) else (-1 : Int32)))] σ := by
      exact ax_iret dX11_who_64 rfl rfl (k2 c1)
    refine ax_if_lt (tgt := 51) (q := 40) dX11_who_37 (by decide) rfl (fun c2 => ?_) (fun c2 => ?_)
    · refine ax_iconst (q := 52) dX11_who_51 rfl ki_m1 ?_
      refine ax_goto (tgt := 64) dX11_who_52 (by decide) ?_
      exact ax_cv (if_pos c2) K4
    · refine ax_iload_n (q := 41) (i := 2) dX11_who_40 rfl rfl rfl ?_
      refine ax_aload_n (q := 42) (i := 0) dX11_who_41 rfl rfl rfl ?_
      refine ax_get (q := 45) (k := 0) (j := 10) (v := ax_r 11) dX11_who_42 rfl shC_0 rfl rfl rfl (by decide) fl_X11_88 ?_
      refine ax_get (q := 48) (k := 11) (j := 1) (v := ax_i (σ.1 11 1)) dX11_who_45 rfl shC_11 rfl rfl rfl (by decide) fl_X11_333 ?_
      refine ax_icmp_lt (tgt := 55) (q := 51) dX11_who_48 (by decide) rfl (fun c3 => ?_) (fun c3 => ?_)
      · refine ax_aload_n (q := 56) (i := 0) dX11_who_55 rfl rfl rfl ?_
        refine ax_get (q := 59) (k := 0) (j := 10) (v := ax_r 11) dX11_who_56 rfl shC_0 rfl rfl rfl (by decide) fl_X11_88 ?_
        refine ax_get (q := 62) (k := 11) (j := 0) (v := ax_r 44) dX11_who_59 rfl shC_11 rfl rfl rfl (by decide) fl_X11_336 ?_
        refine ax_iload_n (q := 63) (i := 2) dX11_who_62 rfl rfl rfl ?_
        refine ax_iald (q := 64) (a := (Int32.toNatClampNeg x2)) (v := (σ.1 44 (Int32.toNatClampNeg x2))) dX11_who_63 rfl shC_44 (h1 c1 c2 c3) rfl rfl ?_
        exact ax_cv ((if_neg c2).trans (if_pos c3)) K4
      · refine ax_iconst (q := 52) dX11_who_51 rfl ki_m1 ?_
        refine ax_goto (tgt := 64) dX11_who_52 (by decide) ?_
        exact ax_cv ((if_neg c2).trans (if_neg c3)) K4
  · refine ax_aload_n (q := 29) (i := 0) dX11_who_28 rfl rfl rfl ?_
    refine ax_get (q := 32) (k := 0) (j := 10) (v := ax_r 11) dX11_who_29 rfl shC_0 rfl rfl rfl (by decide) fl_X11_88 ?_
    refine ax_get (q := 35) (k := 11) (j := 1) (v := ax_i (σ.1 11 1)) dX11_who_32 rfl shC_11 rfl rfl rfl (by decide) fl_X11_333 ?_
    exact ax_iret dX11_who_35 rfl rfl (k3 c1)
set_option maxRecDepth 20000 in
theorem s_X11_sure_0 {d : Nat} (hd : 1 ≤ d) {Q : Option ax_V → ax_S → Prop} (σ : ax_S) (a0 : Int32) (k1 : (¬ (¬ ((σ.1 5 9) ≤ 0))) → Q (some (ax_i (-1 : Int32))) σ) (k2 : (¬ ((σ.1 5 9) ≤ 0)) → (a0 < 0) → Q (some (ax_i (-1 : Int32))) σ) (k3 : (¬ ((σ.1 5 9) ≤ 0)) → (¬ (a0 < 0)) → (a0 ≤ (2 : Int32)) → ax_Ct shC d mX11_gatherFitting [ax_r 0, ax_i a0] (fun r u => r = none ∧ ax_W shC (d + 1) mX11_sure Q 23 [some (ax_r 0), none, none, none] [] u) σ) (k4 : (¬ ((σ.1 5 9) ≤ 0)) → (¬ (a0 < 0)) → (¬ (a0 ≤ (2 : Int32))) → Q (some (ax_i (-1 : Int32))) σ) : ax_W shC (d + 1) mX11_sure Q 0 [some (ax_r 0), some (ax_i a0), none, none] [] σ := by
  refine ax_aload_n (q := 1) (i := 0) dX11_sure_0 rfl rfl rfl ?_
  refine ax_callVfi (q := 4) (As := []) (st := []) (x := (if (¬ ((σ.1 5 9) ≤ 0)) then (1 : Int32) else 0)) (σ2 := σ) dX11_sure_1 rfl lk_X11_274 shC_0 rfl rfl rfl rfl (Nat.le_of_ble_eq_true rfl) (f_X11_hasBelt σ   (d := d) (by omega)) ?_
  refine ax_if_eqB (tgt := 16) (q := 7) dX11_sure_4 (by decide) rfl (fun c1 => ?_) (fun c1 => ?_)
  · refine ax_iconst (q := 17) dX11_sure_16 rfl ki_m1 ?_
    exact ax_iret dX11_sure_17 rfl rfl (k1 c1)
  · refine ax_iload_n (q := 8) (i := 1) dX11_sure_7 rfl rfl rfl ?_
    refine ax_if_lt (tgt := 16) (q := 11) dX11_sure_8 (by decide) rfl (fun c2 => ?_) (fun c2 => ?_)
    · refine ax_iconst (q := 17) dX11_sure_16 rfl ki_m1 ?_
      exact ax_iret dX11_sure_17 rfl rfl (k2 c1 c2)
    · refine ax_iload_n (q := 12) (i := 1) dX11_sure_11 rfl rfl rfl ?_
      refine ax_iconst (q := 13) dX11_sure_12 rfl ki_2 ?_
      refine ax_icmp_le (tgt := 18) (q := 16) dX11_sure_13 (by decide) rfl (fun c3 => ?_) (fun c3 => ?_)
      · refine ax_aload_n (q := 19) (i := 0) dX11_sure_18 rfl rfl rfl ?_
        refine ax_iload_n (q := 20) (i := 1) dX11_sure_19 rfl rfl rfl ?_
        refine ax_fg (lv2 := [some (ax_r 0), none, none, none]) ⟨rfl, trivial⟩ ?_
        exact ax_callVcv (q := 23) (As := [ax_i a0]) (st := []) dX11_sure_20 rfl lk_X11_406 shC_0 rfl rfl rfl rfl (Nat.le_of_ble_eq_true rfl) (k3 c1 c2 c3)
      · refine ax_iconst (q := 17) dX11_sure_16 rfl ki_m1 ?_
        exact ax_iret dX11_sure_17 rfl rfl (k4 c1 c2 c3)
set_option maxRecDepth 20000 in
theorem s_X11_sure_23 {d : Nat} (hd : 0 ≤ d) {Q : Option ax_V → ax_S → Prop} (σ : ax_S)  (k1 : ax_W shC (d + 1) mX11_sure Q 27 [some (ax_r 0), none, some (ax_i (-1 : Int32)), some (ax_i (0 : Int32))] [] σ) : ax_W shC (d + 1) mX11_sure Q 23 [some (ax_r 0), none, none, none] [] σ := by
  refine ax_iconst (q := 24) dX11_sure_23 rfl ki_m1 ?_
  refine ax_istore_n (q := 25) (i := 2) (lv2 := [some (ax_r 0), none, some (ax_i (-1 : Int32)), none]) dX11_sure_24 rfl rfl (by decide) rfl rfl ?_
  refine ax_iconst (q := 26) dX11_sure_25 rfl ki_0 ?_
  refine ax_istore_n (q := 27) (i := 3) (lv2 := [some (ax_r 0), none, some (ax_i (-1 : Int32)), some (ax_i (0 : Int32))]) dX11_sure_26 rfl rfl (by decide) rfl rfl ?_
  exact k1
set_option maxRecDepth 20000 in
theorem s_X11_sure_27 {d : Nat} (hd : 0 ≤ d) {Q : Option ax_V → ax_S → Prop} (σ : ax_S) (x2 : Int32) (x3 : Int32) (k1 : ((σ.1 11 1) ≤ x3) → Q (some (ax_i x2)) σ) (h2 : (¬ ((σ.1 11 1) ≤ x3)) → vp_in x3 120) (k3 : (¬ ((σ.1 11 1) ≤ x3)) → ax_W shC (d + 1) mX11_sure Q 27 [some (ax_r 0), none, some (ax_i (x2 &&& (σ.1 44 (Int32.toNatClampNeg x3)))), some (ax_i (x3 + (1 : Int32)))] [] σ) : ax_W shC (d + 1) mX11_sure Q 27 [some (ax_r 0), none, some (ax_i x2), some (ax_i x3)] [] σ := by
  refine ax_iload_n (q := 28) (i := 3) dX11_sure_27 rfl rfl rfl ?_
  refine ax_aload_n (q := 29) (i := 0) dX11_sure_28 rfl rfl rfl ?_
  refine ax_get (q := 32) (k := 0) (j := 10) (v := ax_r 11) dX11_sure_29 rfl shC_0 rfl rfl rfl (by decide) fl_X11_88 ?_
  refine ax_get (q := 35) (k := 11) (j := 1) (v := ax_i (σ.1 11 1)) dX11_sure_32 rfl shC_11 rfl rfl rfl (by decide) fl_X11_333 ?_
  refine ax_icmp_ge (tgt := 56) (q := 38) dX11_sure_35 (by decide) rfl (fun c1 => ?_) (fun c1 => ?_)
  · refine ax_iload_n (q := 57) (i := 2) dX11_sure_56 rfl rfl rfl ?_
    exact ax_iret dX11_sure_57 rfl rfl (k1 c1)
  · refine ax_iload_n (q := 39) (i := 2) dX11_sure_38 rfl rfl rfl ?_
    refine ax_aload_n (q := 40) (i := 0) dX11_sure_39 rfl rfl rfl ?_
    refine ax_get (q := 43) (k := 0) (j := 10) (v := ax_r 11) dX11_sure_40 rfl shC_0 rfl rfl rfl (by decide) fl_X11_88 ?_
    refine ax_get (q := 46) (k := 11) (j := 0) (v := ax_r 44) dX11_sure_43 rfl shC_11 rfl rfl rfl (by decide) fl_X11_336 ?_
    refine ax_iload_n (q := 47) (i := 3) dX11_sure_46 rfl rfl rfl ?_
    refine ax_iald (q := 48) (a := (Int32.toNatClampNeg x3)) (v := (σ.1 44 (Int32.toNatClampNeg x3))) dX11_sure_47 rfl shC_44 (h2 c1) rfl rfl ?_
    refine ax_iand (q := 49) dX11_sure_48 rfl ?_
    refine ax_istore_n (q := 50) (i := 2) (lv2 := [some (ax_r 0), none, some (ax_i (x2 &&& (σ.1 44 (Int32.toNatClampNeg x3)))), some (ax_i x3)]) dX11_sure_49 rfl rfl (by decide) rfl rfl ?_
    refine ax_iincK (q := 53) (lv2 := [some (ax_r 0), none, some (ax_i (x2 &&& (σ.1 44 (Int32.toNatClampNeg x3)))), some (ax_i (x3 + (1 : Int32)))]) dX11_sure_50 rfl rfl ki_1 (by decide) rfl rfl ?_
    refine ax_goto (tgt := 27) dX11_sure_53 (by decide) ?_
    exact (k3 c1)
set_option maxRecDepth 20000 in
theorem s_X11_burningSets_0 {d : Nat} (hd : 0 ≤ d) {Q : Option ax_V → ax_S → Prop} (σ : ax_S) (a0 : Int32) (k1 : ax_Ct shC d mX0_live [ax_r 5] (fun r u => ∃ x : Int32, r = some (ax_i x) ∧ ax_W shC (d + 1) mX11_burningSets Q 7 [some (ax_r 0), some (ax_i a0), none, none, none] (ax_i x :: []) u) σ) : ax_W shC (d + 1) mX11_burningSets Q 0 [some (ax_r 0), some (ax_i a0), none, none, none] [] σ := by
  refine ax_aload_n (q := 1) (i := 0) dX11_burningSets_0 rfl rfl rfl ?_
  refine ax_get (q := 4) (k := 0) (j := 4) (v := ax_r 5) dX11_burningSets_1 rfl shC_0 rfl rfl rfl (by decide) fl_X11_42 ?_
  exact ax_callVci (q := 7) (As := []) (st := []) dX11_burningSets_4 rfl lk_X11_185 shC_5 rfl rfl rfl rfl (Nat.le_of_ble_eq_true rfl) k1
set_option maxRecDepth 20000 in
theorem s_X11_burningSets_7 {d : Nat} (hd : 0 ≤ d) {Q : Option ax_V → ax_S → Prop} (σ : ax_S) (x1 : Int32) (rr : Int32) (k1 : ax_W shC (d + 1) mX11_burningSets Q 13 [some (ax_r 0), some (ax_i x1), some (ax_i rr), some (ax_i (0 : Int32)), some (ax_i (0 : Int32))] [] σ) : ax_W shC (d + 1) mX11_burningSets Q 7 [some (ax_r 0), some (ax_i x1), none, none, none] [ax_i rr] σ := by
  refine ax_istore_n (q := 8) (i := 2) (lv2 := [some (ax_r 0), some (ax_i x1), some (ax_i rr), none, none]) dX11_burningSets_7 rfl rfl (by decide) rfl rfl ?_
  refine ax_iconst (q := 9) dX11_burningSets_8 rfl ki_0 ?_
  refine ax_istore_n (q := 10) (i := 3) (lv2 := [some (ax_r 0), some (ax_i x1), some (ax_i rr), some (ax_i (0 : Int32)), none]) dX11_burningSets_9 rfl rfl (by decide) rfl rfl ?_
  refine ax_iconst (q := 11) dX11_burningSets_10 rfl ki_0 ?_
  refine ax_istore (q := 13) (lv2 := [some (ax_r 0), some (ax_i x1), some (ax_i rr), some (ax_i (0 : Int32)), some (ax_i (0 : Int32))]) dX11_burningSets_11 rfl (by decide) rfl rfl ?_
  exact k1
set_option maxRecDepth 20000 in
theorem s_X11_burningSets_13 {d : Nat} (hd : 0 ≤ d) {Q : Option ax_V → ax_S → Prop} (σ : ax_S) (x1 : Int32) (x2 : Int32) (x3 : Int32) (x4 : Int32) (k1 : ((σ.1 11 1) ≤ x4) → Q (some (ax_i x3)) σ) (h2 : (¬ ((σ.1 11 1) ≤ x4)) → vp_in x4 120) (k3 : (¬ ((σ.1 11 1) ≤ x4)) → ax_Ct shC d mX8_fall [ax_r 6, ax_i (x2 &&& ((σ.1 44 (Int32.toNatClampNeg x4)) ^^^ (-1 : Int32))), ax_i x1, ax_i (50 : Int32)] (fun r u => ∃ x : Int32, r = some (ax_i x) ∧ ax_W shC (d + 1) mX11_burningSets Q 49 [some (ax_r 0), some (ax_i x1), some (ax_i x2), some (ax_i x3), some (ax_i x4)] (ax_i x :: []) u) σ) : ax_W shC (d + 1) mX11_burningSets Q 13 [some (ax_r 0), some (ax_i x1), some (ax_i x2), some (ax_i x3), some (ax_i x4)] [] σ := by
  refine ax_iload (q := 15) dX11_burningSets_13 rfl rfl ?_
  refine ax_aload_n (q := 16) (i := 0) dX11_burningSets_15 rfl rfl rfl ?_
  refine ax_get (q := 19) (k := 0) (j := 10) (v := ax_r 11) dX11_burningSets_16 rfl shC_0 rfl rfl rfl (by decide) fl_X11_88 ?_
  refine ax_get (q := 22) (k := 11) (j := 1) (v := ax_i (σ.1 11 1)) dX11_burningSets_19 rfl shC_11 rfl rfl rfl (by decide) fl_X11_333 ?_
  refine ax_icmp_ge (tgt := 61) (q := 25) dX11_burningSets_22 (by decide) rfl (fun c1 => ?_) (fun c1 => ?_)
  · refine ax_iload_n (q := 62) (i := 3) dX11_burningSets_61 rfl rfl rfl ?_
    exact ax_iret dX11_burningSets_62 rfl rfl (k1 c1)
  · refine ax_aload_n (q := 26) (i := 0) dX11_burningSets_25 rfl rfl rfl ?_
    refine ax_get (q := 29) (k := 0) (j := 5) (v := ax_r 6) dX11_burningSets_26 rfl shC_0 rfl rfl rfl (by decide) fl_X11_51 ?_
    refine ax_iload_n (q := 30) (i := 2) dX11_burningSets_29 rfl rfl rfl ?_
    refine ax_aload_n (q := 31) (i := 0) dX11_burningSets_30 rfl rfl rfl ?_
    refine ax_get (q := 34) (k := 0) (j := 10) (v := ax_r 11) dX11_burningSets_31 rfl shC_0 rfl rfl rfl (by decide) fl_X11_88 ?_
    refine ax_get (q := 37) (k := 11) (j := 0) (v := ax_r 44) dX11_burningSets_34 rfl shC_11 rfl rfl rfl (by decide) fl_X11_336 ?_
    refine ax_iload (q := 39) dX11_burningSets_37 rfl rfl ?_
    refine ax_iald (q := 40) (a := (Int32.toNatClampNeg x4)) (v := (σ.1 44 (Int32.toNatClampNeg x4))) dX11_burningSets_39 rfl shC_44 (h2 c1) rfl rfl ?_
    refine ax_iconst (q := 41) dX11_burningSets_40 rfl ki_m1 ?_
    refine ax_ixor (q := 42) dX11_burningSets_41 rfl ?_
    refine ax_iand (q := 43) dX11_burningSets_42 rfl ?_
    refine ax_iload_n (q := 44) (i := 1) dX11_burningSets_43 rfl rfl rfl ?_
    refine ax_bipush (q := 46) dX11_burningSets_44 rfl kb_50 ?_
    exact ax_callVci (q := 49) (As := [ax_i (x2 &&& ((σ.1 44 (Int32.toNatClampNeg x4)) ^^^ (-1 : Int32))), ax_i x1, ax_i (50 : Int32)]) (st := []) dX11_burningSets_46 rfl lk_X11_311 shC_6 rfl rfl rfl rfl (Nat.le_of_ble_eq_true rfl) (k3 c1)
set_option maxRecDepth 20000 in
theorem s_X11_burningSets_49 {d : Nat} (hd : 0 ≤ d) {Q : Option ax_V → ax_S → Prop} (σ : ax_S) (x1 : Int32) (x2 : Int32) (x3 : Int32) (x4 : Int32) (rr : Int32) (k1 : (rr = 0) → ax_W shC (d + 1) mX11_burningSets Q 13 [some (ax_r 0), some (ax_i x1), some (ax_i x2), some (ax_i x3), some (ax_i (x4 + (1 : Int32)))] [] σ) (k2 : (¬ (rr = 0)) → ax_W shC (d + 1) mX11_burningSets Q 13 [some (ax_r 0), some (ax_i x1), some (ax_i x2), some (ax_i (x3 + (1 : Int32))), some (ax_i (x4 + (1 : Int32)))] [] σ) : ax_W shC (d + 1) mX11_burningSets Q 49 [some (ax_r 0), some (ax_i x1), some (ax_i x2), some (ax_i x3), some (ax_i x4)] [ax_i rr] σ := by
  refine ax_if_eq (tgt := 55) (q := 52) dX11_burningSets_49 (by decide) rfl (fun c1 => ?_) (fun c1 => ?_)
  · refine ax_iincK (q := 58) (lv2 := [some (ax_r 0), some (ax_i x1), some (ax_i x2), some (ax_i x3), some (ax_i (x4 + (1 : Int32)))]) dX11_burningSets_55 rfl rfl ki_1 (by decide) rfl rfl ?_
    refine ax_goto (tgt := 13) dX11_burningSets_58 (by decide) ?_
    exact (k1 c1)
  · refine ax_iincK (q := 55) (lv2 := [some (ax_r 0), some (ax_i x1), some (ax_i x2), some (ax_i (x3 + (1 : Int32))), some (ax_i x4)]) dX11_burningSets_52 rfl rfl ki_1 (by decide) rfl rfl ?_
    refine ax_iincK (q := 58) (lv2 := [some (ax_r 0), some (ax_i x1), some (ax_i x2), some (ax_i (x3 + (1 : Int32))), some (ax_i (x4 + (1 : Int32)))]) dX11_burningSets_55 rfl rfl ki_1 (by decide) rfl rfl ?_
    refine ax_goto (tgt := 13) dX11_burningSets_58 (by decide) ?_
    exact (k2 c1)
set_option maxRecDepth 20000 in
theorem s_X11_best_0 {d : Nat} (hd : 1 ≤ d) {Q : Option ax_V → ax_S → Prop} (σ : ax_S) (a0 : Int32) (k1 : (¬ (¬ ((σ.1 5 9) ≤ 0))) → Q (some (ax_i (-1 : Int32))) σ) (k2 : (¬ ((σ.1 5 9) ≤ 0)) → (a0 < 0) → Q (some (ax_i (-1 : Int32))) σ) (k3 : (¬ ((σ.1 5 9) ≤ 0)) → (¬ (a0 < 0)) → (a0 ≤ (2 : Int32)) → ax_Ct shC d mX11_gatherFitting [ax_r 0, ax_i a0] (fun r u => r = none ∧ ax_W shC (d + 1) mX11_best Q 23 [some (ax_r 0), none, none, none, none, none] [] u) σ) (k4 : (¬ ((σ.1 5 9) ≤ 0)) → (¬ (a0 < 0)) → (¬ (a0 ≤ (2 : Int32))) → Q (some (ax_i (-1 : Int32))) σ) : ax_W shC (d + 1) mX11_best Q 0 [some (ax_r 0), some (ax_i a0), none, none, none, none] [] σ := by
  refine ax_aload_n (q := 1) (i := 0) dX11_best_0 rfl rfl rfl ?_
  refine ax_callVfi (q := 4) (As := []) (st := []) (x := (if (¬ ((σ.1 5 9) ≤ 0)) then (1 : Int32) else 0)) (σ2 := σ) dX11_best_1 rfl lk_X11_274 shC_0 rfl rfl rfl rfl (Nat.le_of_ble_eq_true rfl) (f_X11_hasBelt σ   (d := d) (by omega)) ?_
  refine ax_if_eqB (tgt := 16) (q := 7) dX11_best_4 (by decide) rfl (fun c1 => ?_) (fun c1 => ?_)
  · refine ax_iconst (q := 17) dX11_best_16 rfl ki_m1 ?_
    exact ax_iret dX11_best_17 rfl rfl (k1 c1)
  · refine ax_iload_n (q := 8) (i := 1) dX11_best_7 rfl rfl rfl ?_
    refine ax_if_lt (tgt := 16) (q := 11) dX11_best_8 (by decide) rfl (fun c2 => ?_) (fun c2 => ?_)
    · refine ax_iconst (q := 17) dX11_best_16 rfl ki_m1 ?_
      exact ax_iret dX11_best_17 rfl rfl (k2 c1 c2)
    · refine ax_iload_n (q := 12) (i := 1) dX11_best_11 rfl rfl rfl ?_
      refine ax_iconst (q := 13) dX11_best_12 rfl ki_2 ?_
      refine ax_icmp_le (tgt := 18) (q := 16) dX11_best_13 (by decide) rfl (fun c3 => ?_) (fun c3 => ?_)
      · refine ax_aload_n (q := 19) (i := 0) dX11_best_18 rfl rfl rfl ?_
        refine ax_iload_n (q := 20) (i := 1) dX11_best_19 rfl rfl rfl ?_
        refine ax_fg (lv2 := [some (ax_r 0), none, none, none, none, none]) ⟨rfl, trivial⟩ ?_
        exact ax_callVcv (q := 23) (As := [ax_i a0]) (st := []) dX11_best_20 rfl lk_X11_406 shC_0 rfl rfl rfl rfl (Nat.le_of_ble_eq_true rfl) (k3 c1 c2 c3)
      · refine ax_iconst (q := 17) dX11_best_16 rfl ki_m1 ?_
        exact ax_iret dX11_best_17 rfl rfl (k4 c1 c2 c3)
set_option maxRecDepth 20000 in
theorem s_X11_best_23 {d : Nat} (hd : 0 ≤ d) {Q : Option ax_V → ax_S → Prop} (σ : ax_S)  (k1 : (¬ (σ.1 11 1) = 0) → ax_W shC (d + 1) mX11_best Q 50 [some (ax_r 0), none, some (ax_i ((σ.1 11 1) + (1 : Int32))), some (ax_i (-1 : Int32)), some (ax_i (0 : Int32)), none] [] σ) (k2 : (¬ (¬ (σ.1 11 1) = 0)) → Q (some (ax_i (-1 : Int32))) σ) : ax_W shC (d + 1) mX11_best Q 23 [some (ax_r 0), none, none, none, none, none] [] σ := by
  refine ax_aload_n (q := 24) (i := 0) dX11_best_23 rfl rfl rfl ?_
  refine ax_get (q := 27) (k := 0) (j := 10) (v := ax_r 11) dX11_best_24 rfl shC_0 rfl rfl rfl (by decide) fl_X11_88 ?_
  refine ax_get (q := 30) (k := 11) (j := 1) (v := ax_i (σ.1 11 1)) dX11_best_27 rfl shC_11 rfl rfl rfl (by decide) fl_X11_333 ?_
  refine ax_if_ne (tgt := 35) (q := 33) dX11_best_30 (by decide) rfl (fun c1 => ?_) (fun c1 => ?_)
  · refine ax_aload_n (q := 36) (i := 0) dX11_best_35 rfl rfl rfl ?_
    refine ax_get (q := 39) (k := 0) (j := 10) (v := ax_r 11) dX11_best_36 rfl shC_0 rfl rfl rfl (by decide) fl_X11_88 ?_
    refine ax_get (q := 42) (k := 11) (j := 1) (v := ax_i (σ.1 11 1)) dX11_best_39 rfl shC_11 rfl rfl rfl (by decide) fl_X11_333 ?_
    refine ax_iconst (q := 43) dX11_best_42 rfl ki_1 ?_
    refine ax_iadd (q := 44) dX11_best_43 rfl ?_
    refine ax_istore_n (q := 45) (i := 2) (lv2 := [some (ax_r 0), none, some (ax_i ((σ.1 11 1) + (1 : Int32))), none, none, none]) dX11_best_44 rfl rfl (by decide) rfl rfl ?_
    refine ax_iconst (q := 46) dX11_best_45 rfl ki_m1 ?_
    refine ax_istore_n (q := 47) (i := 3) (lv2 := [some (ax_r 0), none, some (ax_i ((σ.1 11 1) + (1 : Int32))), some (ax_i (-1 : Int32)), none, none]) dX11_best_46 rfl rfl (by decide) rfl rfl ?_
    refine ax_iconst (q := 48) dX11_best_47 rfl ki_0 ?_
    refine ax_istore (q := 50) (lv2 := [some (ax_r 0), none, some (ax_i ((σ.1 11 1) + (1 : Int32))), some (ax_i (-1 : Int32)), some (ax_i (0 : Int32)), none]) dX11_best_48 rfl (by decide) rfl rfl ?_
    exact (k1 c1)
  · refine ax_iconst (q := 34) dX11_best_33 rfl ki_m1 ?_
    exact ax_iret dX11_best_34 rfl rfl (k2 c1)
set_option maxRecDepth 20000 in
theorem s_X11_best_50 {d : Nat} (hd : 0 ≤ d) {Q : Option ax_V → ax_S → Prop} (σ : ax_S) (x2 : Int32) (x3 : Int32) (x4 : Int32) (k1 : ((σ.1 5 9) ≤ x4) → Q (some (ax_i x3)) σ) (k2 : (¬ ((σ.1 5 9) ≤ x4)) → ax_Ct shC d mX11_burningSets [ax_r 0, ax_i x4] (fun r u => ∃ x : Int32, r = some (ax_i x) ∧ ax_W shC (d + 1) mX11_best Q 69 [some (ax_r 0), none, some (ax_i x2), some (ax_i x3), some (ax_i x4), none] (ax_i x :: [ax_i (2 : Int32)]) u) σ) : ax_W shC (d + 1) mX11_best Q 50 [some (ax_r 0), none, some (ax_i x2), some (ax_i x3), some (ax_i x4), none] [] σ := by
  refine ax_iload (q := 52) dX11_best_50 rfl rfl ?_
  refine ax_aload_n (q := 53) (i := 0) dX11_best_52 rfl rfl rfl ?_
  refine ax_get (q := 56) (k := 0) (j := 4) (v := ax_r 5) dX11_best_53 rfl shC_0 rfl rfl rfl (by decide) fl_X11_42 ?_
  refine ax_get (q := 59) (k := 5) (j := 9) (v := ax_i (σ.1 5 9)) dX11_best_56 rfl shC_5 rfl rfl rfl (by decide) fl_X11_154 ?_
  refine ax_icmp_ge (tgt := 101) (q := 62) dX11_best_59 (by decide) rfl (fun c1 => ?_) (fun c1 => ?_)
  · refine ax_iload_n (q := 102) (i := 3) dX11_best_101 rfl rfl rfl ?_
    exact ax_iret dX11_best_102 rfl rfl (k1 c1)
  · refine ax_iconst (q := 63) dX11_best_62 rfl ki_2 ?_
    refine ax_aload_n (q := 64) (i := 0) dX11_best_63 rfl rfl rfl ?_
    refine ax_iload (q := 66) dX11_best_64 rfl rfl ?_
    exact ax_callVci (q := 69) (As := [ax_i x4]) (st := [ax_i (2 : Int32)]) dX11_best_66 rfl lk_X11_409 shC_0 rfl rfl rfl rfl (Nat.le_of_ble_eq_true rfl) (k2 c1)
set_option maxRecDepth 20000 in
theorem s_X11_best_69 {d : Nat} (hd : 0 ≤ d) {Q : Option ax_V → ax_S → Prop} (σ : ax_S) (x2 : Int32) (x3 : Int32) (x4 : Int32) (rr : Int32) (y0 : Int32) (k1 : (x2 ≤ (if (0 : Int32) ≤ ((y0 * rr) - (σ.1 11 1)) then ((y0 * rr) - (σ.1 11 1)) else 0 - ((y0 * rr) - (σ.1 11 1)))) → ax_W shC (d + 1) mX11_best Q 50 [some (ax_r 0), none, some (ax_i x2), some (ax_i x3), some (ax_i (x4 + (1 : Int32))), none] [] σ) (k2 : (¬ (x2 ≤ (if (0 : Int32) ≤ ((y0 * rr) - (σ.1 11 1)) then ((y0 * rr) - (σ.1 11 1)) else 0 - ((y0 * rr) - (σ.1 11 1))))) → ax_W shC (d + 1) mX11_best Q 50 [some (ax_r 0), none, some (ax_i (if (0 : Int32) ≤ ((y0 * rr) - (σ.1 11 1)) then ((y0 * rr) - (σ.1 11 1)) else 0 - ((y0 * rr) - (σ.1 11 1)))), some (ax_i x4), some (ax_i (x4 + (1 : Int32))), none] [] σ) : ax_W shC (d + 1) mX11_best Q 69 [some (ax_r 0), none, some (ax_i x2), some (ax_i x3), some (ax_i x4), none] [ax_i rr, ax_i y0] σ := by
  refine ax_imul (q := 70) dX11_best_69 rfl ?_
  refine ax_aload_n (q := 71) (i := 0) dX11_best_70 rfl rfl rfl ?_
  refine ax_get (q := 74) (k := 0) (j := 10) (v := ax_r 11) dX11_best_71 rfl shC_0 rfl rfl rfl (by decide) fl_X11_88 ?_
  refine ax_get (q := 77) (k := 11) (j := 1) (v := ax_i (σ.1 11 1)) dX11_best_74 rfl shC_11 rfl rfl rfl (by decide) fl_X11_333 ?_
  refine ax_isub (q := 78) dX11_best_77 rfl ?_
  refine ax_mabs (q := 81) dX11_best_78 rfl mk_X11_412 (Nat.le_of_ble_eq_true rfl) ?_
  refine ax_istore (q := 83) (lv2 := [some (ax_r 0), none, some (ax_i x2), some (ax_i x3), some (ax_i x4), some (ax_i (if (0 : Int32) ≤ ((y0 * rr) - (σ.1 11 1)) then ((y0 * rr) - (σ.1 11 1)) else 0 - ((y0 * rr) - (σ.1 11 1))))]) dX11_best_81 rfl (by decide) rfl rfl ?_
  refine ax_iload (q := 85) dX11_best_83 rfl rfl ?_
  refine ax_iload_n (q := 86) (i := 2) dX11_best_85 rfl rfl rfl ?_
  refine ax_icmp_ge (tgt := 95) (q := 89) dX11_best_86 (by decide) rfl (fun c1 => ?_) (fun c1 => ?_)
  · refine ax_iincK (q := 98) (lv2 := [some (ax_r 0), none, some (ax_i x2), some (ax_i x3), some (ax_i (x4 + (1 : Int32))), some (ax_i (if (0 : Int32) ≤ ((y0 * rr) - (σ.1 11 1)) then ((y0 * rr) - (σ.1 11 1)) else 0 - ((y0 * rr) - (σ.1 11 1))))]) dX11_best_95 rfl rfl ki_1 (by decide) rfl rfl ?_
    refine ax_goto (tgt := 50) dX11_best_98 (by decide) ?_
    refine ax_fg (lv2 := [some (ax_r 0), none, some (ax_i x2), some (ax_i x3), some (ax_i (x4 + (1 : Int32))), none]) ⟨rfl, rfl, rfl, rfl, trivial⟩ ?_
    exact (k1 c1)
  · refine ax_iload (q := 91) dX11_best_89 rfl rfl ?_
    refine ax_istore_n (q := 92) (i := 2) (lv2 := [some (ax_r 0), none, some (ax_i (if (0 : Int32) ≤ ((y0 * rr) - (σ.1 11 1)) then ((y0 * rr) - (σ.1 11 1)) else 0 - ((y0 * rr) - (σ.1 11 1)))), some (ax_i x3), some (ax_i x4), some (ax_i (if (0 : Int32) ≤ ((y0 * rr) - (σ.1 11 1)) then ((y0 * rr) - (σ.1 11 1)) else 0 - ((y0 * rr) - (σ.1 11 1))))]) dX11_best_91 rfl rfl (by decide) rfl rfl ?_
    refine ax_iload (q := 94) dX11_best_92 rfl rfl ?_
    refine ax_istore_n (q := 95) (i := 3) (lv2 := [some (ax_r 0), none, some (ax_i (if (0 : Int32) ≤ ((y0 * rr) - (σ.1 11 1)) then ((y0 * rr) - (σ.1 11 1)) else 0 - ((y0 * rr) - (σ.1 11 1)))), some (ax_i x4), some (ax_i x4), some (ax_i (if (0 : Int32) ≤ ((y0 * rr) - (σ.1 11 1)) then ((y0 * rr) - (σ.1 11 1)) else 0 - ((y0 * rr) - (σ.1 11 1))))]) dX11_best_94 rfl rfl (by decide) rfl rfl ?_
    refine ax_iincK (q := 98) (lv2 := [some (ax_r 0), none, some (ax_i (if (0 : Int32) ≤ ((y0 * rr) - (σ.1 11 1)) then ((y0 * rr) - (σ.1 11 1)) else 0 - ((y0 * rr) - (σ.1 11 1)))), some (ax_i x4), some (ax_i (x4 + (1 : Int32))), some (ax_i (if (0 : Int32) ≤ ((y0 * rr) - (σ.1 11 1)) then ((y0 * rr) - (σ.1 11 1)) else 0 - ((y0 * rr) - (σ.1 11 1))))]) dX11_best_95 rfl rfl ki_1 (by decide) rfl rfl ?_
    refine ax_goto (tgt := 50) dX11_best_98 (by decide) ?_
    refine ax_fg (lv2 := [some (ax_r 0), none, some (ax_i (if (0 : Int32) ≤ ((y0 * rr) - (σ.1 11 1)) then ((y0 * rr) - (σ.1 11 1)) else 0 - ((y0 * rr) - (σ.1 11 1)))), some (ax_i x4), some (ax_i (x4 + (1 : Int32))), none]) ⟨rfl, rfl, rfl, rfl, trivial⟩ ?_
    exact (k2 c1)
set_option maxRecDepth 20000 in
theorem s_X11_burnParts_0 {d : Nat} (hd : 0 ≤ d) {Q : Option ax_V → ax_S → Prop} (σ : ax_S) (a0 : Int32) (a1 : Int32) (k1 : ax_Ct shC d mX0_live [ax_r 5] (fun r u => ∃ x : Int32, r = some (ax_i x) ∧ ax_W shC (d + 1) mX11_burnParts Q 7 [some (ax_r 0), some (ax_i a0), some (ax_i a1), none, none, none, none, none] (ax_i x :: []) u) σ) : ax_W shC (d + 1) mX11_burnParts Q 0 [some (ax_r 0), some (ax_i a0), some (ax_i a1), none, none, none, none, none] [] σ := by
  refine ax_aload_n (q := 1) (i := 0) dX11_burnParts_0 rfl rfl rfl ?_
  refine ax_get (q := 4) (k := 0) (j := 4) (v := ax_r 5) dX11_burnParts_1 rfl shC_0 rfl rfl rfl (by decide) fl_X11_42 ?_
  exact ax_callVci (q := 7) (As := []) (st := []) dX11_burnParts_4 rfl lk_X11_185 shC_5 rfl rfl rfl rfl (Nat.le_of_ble_eq_true rfl) k1
set_option maxRecDepth 20000 in
theorem s_X11_burnParts_7 {d : Nat} (hd : 0 ≤ d) {Q : Option ax_V → ax_S → Prop} (σ : ax_S) (x1 : Int32) (x2 : Int32) (rr : Int32) (k1 : ax_Ct shC d mX0_heights [ax_r 5] (fun r u => ∃ x : Int32, r = some (ax_i x) ∧ ax_W shC (d + 1) mX11_burnParts Q 15 [some (ax_r 0), some (ax_i x1), some (ax_i x2), some (ax_i rr), none, none, none, none] (ax_i x :: []) u) σ) : ax_W shC (d + 1) mX11_burnParts Q 7 [some (ax_r 0), some (ax_i x1), some (ax_i x2), none, none, none, none, none] [ax_i rr] σ := by
  refine ax_istore_n (q := 8) (i := 3) (lv2 := [some (ax_r 0), some (ax_i x1), some (ax_i x2), some (ax_i rr), none, none, none, none]) dX11_burnParts_7 rfl rfl (by decide) rfl rfl ?_
  refine ax_aload_n (q := 9) (i := 0) dX11_burnParts_8 rfl rfl rfl ?_
  refine ax_get (q := 12) (k := 0) (j := 4) (v := ax_r 5) dX11_burnParts_9 rfl shC_0 rfl rfl rfl (by decide) fl_X11_42 ?_
  exact ax_callVci (q := 15) (As := []) (st := []) dX11_burnParts_12 rfl lk_X11_444 shC_5 rfl rfl rfl rfl (Nat.le_of_ble_eq_true rfl) k1
set_option maxRecDepth 20000 in
theorem s_X11_burnParts_15 {d : Nat} (hd : 0 ≤ d) {Q : Option ax_V → ax_S → Prop} (σ : ax_S) (x1 : Int32) (x2 : Int32) (x3 : Int32) (rr : Int32) (k1 : ax_W shC (d + 1) mX11_burnParts Q 23 [some (ax_r 0), some (ax_i x1), some (ax_i x2), some (ax_i x3), some (ax_i rr), some (ax_l (0 : Int64)), none, some (ax_i (0 : Int32))] [] σ) : ax_W shC (d + 1) mX11_burnParts Q 15 [some (ax_r 0), some (ax_i x1), some (ax_i x2), some (ax_i x3), none, none, none, none] [ax_i rr] σ := by
  refine ax_istore (q := 17) (lv2 := [some (ax_r 0), some (ax_i x1), some (ax_i x2), some (ax_i x3), some (ax_i rr), none, none, none]) dX11_burnParts_15 rfl (by decide) rfl rfl ?_
  refine ax_lconst (q := 18) (v := 0) dX11_burnParts_17 rfl rfl ?_
  refine ax_lstore (q := 20) (lv2 := [some (ax_r 0), some (ax_i x1), some (ax_i x2), some (ax_i x3), some (ax_i rr), some (ax_l (0 : Int64)), none, none]) dX11_burnParts_18 rfl (by decide) rfl rfl ?_
  refine ax_iconst (q := 21) dX11_burnParts_20 rfl ki_0 ?_
  refine ax_istore (q := 23) (lv2 := [some (ax_r 0), some (ax_i x1), some (ax_i x2), some (ax_i x3), some (ax_i rr), some (ax_l (0 : Int64)), none, some (ax_i (0 : Int32))]) dX11_burnParts_21 rfl (by decide) rfl rfl ?_
  exact k1
set_option maxRecDepth 20000 in
theorem s_X11_burnParts_23 {d : Nat} (hd : 0 ≤ d) {Q : Option ax_V → ax_S → Prop} (σ : ax_S) (x1 : Int32) (x2 : Int32) (x3 : Int32) (x4 : Int32) (x5 : Int64) (x7 : Int32) (k1 : (x4 ≤ 0) → Q (some (ax_l x5)) σ) (k2 : (¬ (x4 ≤ 0)) → ((σ.1 5 9) ≤ x7) → Q (some (ax_l x5)) σ) (k3 : (¬ (x4 ≤ 0)) → (¬ ((σ.1 5 9) ≤ x7)) → ax_Ct shC d mX8_fall [ax_r 6, ax_i x3, ax_i x7, ax_i x2] (fun r u => ∃ x : Int32, r = some (ax_i x) ∧ ax_W shC (d + 1) mX11_burnParts Q 51 [some (ax_r 0), some (ax_i x1), some (ax_i x2), some (ax_i x3), some (ax_i x4), some (ax_l x5), none, some (ax_i x7)] (ax_i x :: []) u) σ) : ax_W shC (d + 1) mX11_burnParts Q 23 [some (ax_r 0), some (ax_i x1), some (ax_i x2), some (ax_i x3), some (ax_i x4), some (ax_l x5), none, some (ax_i x7)] [] σ := by
  refine ax_iload (q := 25) dX11_burnParts_23 rfl rfl ?_
  refine ax_if_le (tgt := 89) (q := 28) dX11_burnParts_25 (by decide) rfl (fun c1 => ?_) (fun c1 => ?_)
  · refine ax_lload (q := 91) dX11_burnParts_89 rfl rfl ?_
    exact ax_lret dX11_burnParts_91 rfl (k1 c1)
  · refine ax_iload (q := 30) dX11_burnParts_28 rfl rfl ?_
    refine ax_aload_n (q := 31) (i := 0) dX11_burnParts_30 rfl rfl rfl ?_
    refine ax_get (q := 34) (k := 0) (j := 4) (v := ax_r 5) dX11_burnParts_31 rfl shC_0 rfl rfl rfl (by decide) fl_X11_42 ?_
    refine ax_get (q := 37) (k := 5) (j := 9) (v := ax_i (σ.1 5 9)) dX11_burnParts_34 rfl shC_5 rfl rfl rfl (by decide) fl_X11_154 ?_
    refine ax_icmp_ge (tgt := 89) (q := 40) dX11_burnParts_37 (by decide) rfl (fun c2 => ?_) (fun c2 => ?_)
    · refine ax_lload (q := 91) dX11_burnParts_89 rfl rfl ?_
      exact ax_lret dX11_burnParts_91 rfl (k2 c1 c2)
    · refine ax_aload_n (q := 41) (i := 0) dX11_burnParts_40 rfl rfl rfl ?_
      refine ax_get (q := 44) (k := 0) (j := 5) (v := ax_r 6) dX11_burnParts_41 rfl shC_0 rfl rfl rfl (by decide) fl_X11_51 ?_
      refine ax_iload_n (q := 45) (i := 3) dX11_burnParts_44 rfl rfl rfl ?_
      refine ax_iload (q := 47) dX11_burnParts_45 rfl rfl ?_
      refine ax_iload_n (q := 48) (i := 2) dX11_burnParts_47 rfl rfl rfl ?_
      exact ax_callVci (q := 51) (As := [ax_i x3, ax_i x7, ax_i x2]) (st := []) dX11_burnParts_48 rfl lk_X11_311 shC_6 rfl rfl rfl rfl (Nat.le_of_ble_eq_true rfl) (k3 c1 c2)
set_option maxRecDepth 20000 in
theorem s_X11_burnParts_51 {d : Nat} (hd : 1 ≤ d) {Q : Option ax_V → ax_S → Prop} (σ : ax_S) (x1 : Int32) (x2 : Int32) (x3 : Int32) (x4 : Int32) (x5 : Int64) (x7 : Int32) (rr : Int32) (k1 : (¬ ((rr >>> (x1 &&& 31)) &&& (1 : Int32)) = (1 : Int32)) → ax_W shC (d + 1) mX11_burnParts Q 23 [some (ax_r 0), some (ax_i x1), some (ax_i x2), some (ax_i x3), some (ax_i x4), some (ax_l x5), none, some (ax_i (x7 + (1 : Int32)))] [] σ) (h2 : (¬ (¬ ((rr >>> (x1 &&& 31)) &&& (1 : Int32)) = (1 : Int32))) → vp_in x7 8) (h3 : (¬ (¬ ((rr >>> (x1 &&& 31)) &&& (1 : Int32)) = (1 : Int32))) → ¬ (Int32.toInt64 x4) = 0) (k4 : (¬ (¬ ((rr >>> (x1 &&& 31)) &&& (1 : Int32)) = (1 : Int32))) → ax_W shC (d + 1) mX11_burnParts Q 23 [some (ax_r 0), some (ax_i x1), some (ax_i x2), some (ax_i x3), some (ax_i x4), some (ax_l (x5 + (((1000000000 : Int64) * (Int32.toInt64 (σ.1 24 (Int32.toNatClampNeg x7)))) / (Int32.toInt64 x4)))), none, some (ax_i (x7 + (1 : Int32)))] [] σ) : ax_W shC (d + 1) mX11_burnParts Q 51 [some (ax_r 0), some (ax_i x1), some (ax_i x2), some (ax_i x3), some (ax_i x4), some (ax_l x5), none, some (ax_i x7)] [ax_i rr] σ := by
  refine ax_iload_n (q := 52) (i := 1) dX11_burnParts_51 rfl rfl rfl ?_
  refine ax_callSfi (q := 55) (As := [ax_i rr, ax_i x1]) (st := []) (x := ((rr >>> (x1 &&& 31)) &&& (1 : Int32))) (σ2 := σ) dX11_burnParts_52 rfl lk_X11_215 rfl rfl (Nat.le_of_ble_eq_true rfl) (f_X11_bitOf (sh := shC) σ rr x1  (d := d) (by omega)) ?_
  refine ax_iconst (q := 56) dX11_burnParts_55 rfl ki_1 ?_
  refine ax_icmp_ne (tgt := 83) (q := 59) dX11_burnParts_56 (by decide) rfl (fun c1 => ?_) (fun c1 => ?_)
  · refine ax_iincK (q := 86) (lv2 := [some (ax_r 0), some (ax_i x1), some (ax_i x2), some (ax_i x3), some (ax_i x4), some (ax_l x5), none, some (ax_i (x7 + (1 : Int32)))]) dX11_burnParts_83 rfl rfl ki_1 (by decide) rfl rfl ?_
    refine ax_goto (tgt := 23) dX11_burnParts_86 (by decide) ?_
    exact (k1 c1)
  · refine ax_lload (q := 61) dX11_burnParts_59 rfl rfl ?_
    refine ax_ldc2 (q := 64) dX11_burnParts_61 rfl kc_X11_421 ?_
    refine ax_aload_n (q := 65) (i := 0) dX11_burnParts_64 rfl rfl rfl ?_
    refine ax_get (q := 68) (k := 0) (j := 4) (v := ax_r 5) dX11_burnParts_65 rfl shC_0 rfl rfl rfl (by decide) fl_X11_42 ?_
    refine ax_get (q := 71) (k := 5) (j := 1) (v := ax_r 24) dX11_burnParts_68 rfl shC_5 rfl rfl rfl (by decide) fl_X11_173 ?_
    refine ax_iload (q := 73) dX11_burnParts_71 rfl rfl ?_
    refine ax_iald (q := 74) (a := (Int32.toNatClampNeg x7)) (v := (σ.1 24 (Int32.toNatClampNeg x7))) dX11_burnParts_73 rfl shC_24 (h2 c1) rfl rfl ?_
    refine ax_i2l (q := 75) dX11_burnParts_74 rfl ?_
    refine ax_lmul (q := 76) dX11_burnParts_75 rfl ?_
    refine ax_iload (q := 78) dX11_burnParts_76 rfl rfl ?_
    refine ax_i2l (q := 79) dX11_burnParts_78 rfl ?_
    refine ax_ldiv (q := 80) dX11_burnParts_79 rfl (h3 c1) ?_
    refine ax_ladd (q := 81) dX11_burnParts_80 rfl ?_
    refine ax_lstore (q := 83) (lv2 := [some (ax_r 0), some (ax_i x1), some (ax_i x2), some (ax_i x3), some (ax_i x4), some (ax_l (x5 + (((1000000000 : Int64) * (Int32.toInt64 (σ.1 24 (Int32.toNatClampNeg x7)))) / (Int32.toInt64 x4)))), none, some (ax_i x7)]) dX11_burnParts_81 rfl (by decide) rfl rfl ?_
    refine ax_iincK (q := 86) (lv2 := [some (ax_r 0), some (ax_i x1), some (ax_i x2), some (ax_i x3), some (ax_i x4), some (ax_l (x5 + (((1000000000 : Int64) * (Int32.toInt64 (σ.1 24 (Int32.toNatClampNeg x7)))) / (Int32.toInt64 x4)))), none, some (ax_i (x7 + (1 : Int32)))]) dX11_burnParts_83 rfl rfl ki_1 (by decide) rfl rfl ?_
    refine ax_goto (tgt := 23) dX11_burnParts_86 (by decide) ?_
    exact (k4 c1)
set_option maxRecDepth 20000 in
theorem s_X11_odds_0 {d : Nat} (hd : 1 ≤ d) {Q : Option ax_V → ax_S → Prop} (σ : ax_S) (a0 : Int32) (a1 : Int32) (k1 : (¬ ((¬ (a0 < 0)) ∧ (¬ ((σ.1 5 9) ≤ a0)))) → Q (some (ax_i (-1 : Int32))) σ) (k2 : ((¬ (a0 < 0)) ∧ (¬ ((σ.1 5 9) ≤ a0))) → (¬ ((¬ (a1 < (1 : Int32))) ∧ (¬ ((999 : Int32) < a1)))) → Q (some (ax_i (-1 : Int32))) σ) (k3 : ((¬ (a0 < 0)) ∧ (¬ ((σ.1 5 9) ≤ a0))) → ((¬ (a1 < (1 : Int32))) ∧ (¬ ((999 : Int32) < a1))) → ax_Ct shC d mX11_burnParts [ax_r 0, ax_i a0, ax_i a1] (fun r u => ∃ x : Int64, r = some (ax_l x) ∧ ax_W shC (d + 1) mX11_odds Q 21 [none, none, none] (ax_l x :: []) u) σ) : ax_W shC (d + 1) mX11_odds Q 0 [some (ax_r 0), some (ax_i a0), some (ax_i a1)] [] σ := by
  refine ax_aload_n (q := 1) (i := 0) dX11_odds_0 rfl rfl rfl ?_
  refine ax_iload_n (q := 2) (i := 1) dX11_odds_1 rfl rfl rfl ?_
  refine ax_callVfi (q := 5) (As := [ax_i a0]) (st := []) (x := (if ((¬ (a0 < 0)) ∧ (¬ ((σ.1 5 9) ≤ a0))) then (1 : Int32) else 0)) (σ2 := σ) dX11_odds_2 rfl lk_X11_160 shC_0 rfl rfl rfl rfl (Nat.le_of_ble_eq_true rfl) (f_X11_isHouse σ a0  (d := d) (by omega)) ?_
  refine ax_if_eqB (tgt := 25) (q := 8) dX11_odds_5 (by decide) rfl (fun c1 => ?_) (fun c1 => ?_)
  · refine ax_iconst (q := 26) dX11_odds_25 rfl ki_m1 ?_
    exact ax_iret dX11_odds_26 rfl rfl (k1 c1)
  · refine ax_iload_n (q := 9) (i := 2) dX11_odds_8 rfl rfl rfl ?_
    refine ax_callSfi (q := 12) (As := [ax_i a1]) (st := []) (x := (if ((¬ (a1 < (1 : Int32))) ∧ (¬ ((999 : Int32) < a1))) then (1 : Int32) else 0)) (σ2 := σ) dX11_odds_9 rfl lk_X11_245 rfl rfl (Nat.le_of_ble_eq_true rfl) (f_X11_isStroke (sh := shC) σ a1  (d := d) (by omega)) ?_
    refine ax_if_eqB (tgt := 25) (q := 15) dX11_odds_12 (by decide) rfl (fun c2 => ?_) (fun c2 => ?_)
    · refine ax_iconst (q := 26) dX11_odds_25 rfl ki_m1 ?_
      exact ax_iret dX11_odds_26 rfl rfl (k2 c1 c2)
    · refine ax_aload_n (q := 16) (i := 0) dX11_odds_15 rfl rfl rfl ?_
      refine ax_iload_n (q := 17) (i := 1) dX11_odds_16 rfl rfl rfl ?_
      refine ax_iload_n (q := 18) (i := 2) dX11_odds_17 rfl rfl rfl ?_
      refine ax_fg (lv2 := [none, none, none]) trivial ?_
      exact ax_callVcl (q := 21) (As := [ax_i a0, ax_i a1]) (st := []) dX11_odds_18 rfl lk_X11_417 shC_0 rfl rfl rfl rfl (Nat.le_of_ble_eq_true rfl) (k3 c1 c2)
set_option maxRecDepth 20000 in
theorem s_X11_odds_21 {d : Nat} (hd : 0 ≤ d) {Q : Option ax_V → ax_S → Prop} (σ : ax_S) (rr : Int64) (k1 : Q (some (ax_i (Int64.toInt32 rr))) σ) : ax_W shC (d + 1) mX11_odds Q 21 [none, none, none] [ax_l rr] σ := by
  refine ax_l2i (q := 22) dX11_odds_21 rfl ?_
  refine ax_goto (tgt := 26) dX11_odds_22 (by decide) ?_
  exact ax_iret dX11_odds_26 rfl rfl k1
set_option maxRecDepth 20000 in
theorem s_X11_premium_0 {d : Nat} (hd : 1 ≤ d) {Q : Option ax_V → ax_S → Prop} (σ : ax_S) (a0 : Int32) (a1 : Int32) (a2 : Int32) (k1 : (¬ ((¬ (a0 < 0)) ∧ (¬ ((σ.1 5 9) ≤ a0)))) → Q (some (ax_i (-1 : Int32))) σ) (k2 : ((¬ (a0 < 0)) ∧ (¬ ((σ.1 5 9) ≤ a0))) → (¬ ((¬ (a1 < (1 : Int32))) ∧ (¬ ((999 : Int32) < a1)))) → Q (some (ax_i (-1 : Int32))) σ) (k3 : ((¬ (a0 < 0)) ∧ (¬ ((σ.1 5 9) ≤ a0))) → ((¬ (a1 < (1 : Int32))) ∧ (¬ ((999 : Int32) < a1))) → (a2 < (1 : Int32)) → Q (some (ax_i (-1 : Int32))) σ) (k4 : ((¬ (a0 < 0)) ∧ (¬ ((σ.1 5 9) ≤ a0))) → ((¬ (a1 < (1 : Int32))) ∧ (¬ ((999 : Int32) < a1))) → (¬ (a2 < (1 : Int32))) → (a2 ≤ (999 : Int32)) → ax_Ct shC d mX11_burnParts [ax_r 0, ax_i a0, ax_i a1] (fun r u => ∃ x : Int64, r = some (ax_l x) ∧ ax_W shC (d + 1) mX11_premium Q 35 [none, none, none, some (ax_i a2)] (ax_l x :: []) u) σ) (k5 : ((¬ (a0 < 0)) ∧ (¬ ((σ.1 5 9) ≤ a0))) → ((¬ (a1 < (1 : Int32))) ∧ (¬ ((999 : Int32) < a1))) → (¬ (a2 < (1 : Int32))) → (¬ (a2 ≤ (999 : Int32))) → Q (some (ax_i (-1 : Int32))) σ) : ax_W shC (d + 1) mX11_premium Q 0 [some (ax_r 0), some (ax_i a0), some (ax_i a1), some (ax_i a2)] [] σ := by
  refine ax_aload_n (q := 1) (i := 0) dX11_premium_0 rfl rfl rfl ?_
  refine ax_iload_n (q := 2) (i := 1) dX11_premium_1 rfl rfl rfl ?_
  refine ax_callVfi (q := 5) (As := [ax_i a0]) (st := []) (x := (if ((¬ (a0 < 0)) ∧ (¬ ((σ.1 5 9) ≤ a0))) then (1 : Int32) else 0)) (σ2 := σ) dX11_premium_2 rfl lk_X11_160 shC_0 rfl rfl rfl rfl (Nat.le_of_ble_eq_true rfl) (f_X11_isHouse σ a0  (d := d) (by omega)) ?_
  refine ax_if_eqB (tgt := 27) (q := 8) dX11_premium_5 (by decide) rfl (fun c1 => ?_) (fun c1 => ?_)
  · refine ax_iconst (q := 28) dX11_premium_27 rfl ki_m1 ?_
    exact ax_iret dX11_premium_28 rfl rfl (k1 c1)
  · refine ax_iload_n (q := 9) (i := 2) dX11_premium_8 rfl rfl rfl ?_
    refine ax_callSfi (q := 12) (As := [ax_i a1]) (st := []) (x := (if ((¬ (a1 < (1 : Int32))) ∧ (¬ ((999 : Int32) < a1))) then (1 : Int32) else 0)) (σ2 := σ) dX11_premium_9 rfl lk_X11_245 rfl rfl (Nat.le_of_ble_eq_true rfl) (f_X11_isStroke (sh := shC) σ a1  (d := d) (by omega)) ?_
    refine ax_if_eqB (tgt := 27) (q := 15) dX11_premium_12 (by decide) rfl (fun c2 => ?_) (fun c2 => ?_)
    · refine ax_iconst (q := 28) dX11_premium_27 rfl ki_m1 ?_
      exact ax_iret dX11_premium_28 rfl rfl (k2 c1 c2)
    · refine ax_iload_n (q := 16) (i := 3) dX11_premium_15 rfl rfl rfl ?_
      refine ax_iconst (q := 17) dX11_premium_16 rfl ki_1 ?_
      refine ax_icmp_lt (tgt := 27) (q := 20) dX11_premium_17 (by decide) rfl (fun c3 => ?_) (fun c3 => ?_)
      · refine ax_iconst (q := 28) dX11_premium_27 rfl ki_m1 ?_
        exact ax_iret dX11_premium_28 rfl rfl (k3 c1 c2 c3)
      · refine ax_iload_n (q := 21) (i := 3) dX11_premium_20 rfl rfl rfl ?_
        refine ax_sipush (q := 24) dX11_premium_21 rfl ks_999 ?_
        refine ax_icmp_le (tgt := 29) (q := 27) dX11_premium_24 (by decide) rfl (fun c4 => ?_) (fun c4 => ?_)
        · refine ax_aload_n (q := 30) (i := 0) dX11_premium_29 rfl rfl rfl ?_
          refine ax_iload_n (q := 31) (i := 1) dX11_premium_30 rfl rfl rfl ?_
          refine ax_iload_n (q := 32) (i := 2) dX11_premium_31 rfl rfl rfl ?_
          refine ax_fg (lv2 := [none, none, none, some (ax_i a2)]) ⟨rfl, trivial⟩ ?_
          exact ax_callVcl (q := 35) (As := [ax_i a0, ax_i a1]) (st := []) dX11_premium_32 rfl lk_X11_417 shC_0 rfl rfl rfl rfl (Nat.le_of_ble_eq_true rfl) (k4 c1 c2 c3 c4)
        · refine ax_iconst (q := 28) dX11_premium_27 rfl ki_m1 ?_
          exact ax_iret dX11_premium_28 rfl rfl (k5 c1 c2 c3 c4)
set_option maxRecDepth 20000 in
theorem s_X11_premium_35 {d : Nat} (hd : 0 ≤ d) {Q : Option ax_V → ax_S → Prop} (σ : ax_S) (x3 : Int32) (rr : Int64) (k1 : Q (some (ax_i (Int64.toInt32 ((((rr * (Int32.toInt64 x3)) + (1000000000 : Int64)) - (1 : Int64)) / (1000000000 : Int64))))) σ) : ax_W shC (d + 1) mX11_premium Q 35 [none, none, none, some (ax_i x3)] [ax_l rr] σ := by
  refine ax_iload_n (q := 36) (i := 3) dX11_premium_35 rfl rfl rfl ?_
  refine ax_i2l (q := 37) dX11_premium_36 rfl ?_
  refine ax_lmul (q := 38) dX11_premium_37 rfl ?_
  refine ax_ldc2 (q := 41) dX11_premium_38 rfl kc_X11_421 ?_
  refine ax_ladd (q := 42) dX11_premium_41 rfl ?_
  refine ax_lconst (q := 43) (v := 1) dX11_premium_42 rfl rfl ?_
  refine ax_lsub (q := 44) dX11_premium_43 rfl ?_
  refine ax_ldc2 (q := 47) dX11_premium_44 rfl kc_X11_421 ?_
  refine ax_ldiv (q := 48) dX11_premium_47 rfl (by decide) ?_
  refine ax_l2i (q := 49) dX11_premium_48 rfl ?_
  exact ax_iret dX11_premium_49 rfl rfl k1
set_option maxRecDepth 20000 in
theorem s_X11_test_0 {d : Nat} (hd : 1 ≤ d) {Q : Option ax_V → ax_S → Prop} (σ : ax_S) (a0 : Int32) (a1 : Int32) (k1 : (¬ (¬ ((σ.1 5 9) ≤ 0))) → Q (some (ax_i (-1 : Int32))) σ) (k2 : (¬ ((σ.1 5 9) ≤ 0)) → (a0 < 0) → Q (some (ax_i (-1 : Int32))) σ) (k3 : (¬ ((σ.1 5 9) ≤ 0)) → (¬ (a0 < 0)) → ((3 : Int32) ≤ a0) → Q (some (ax_i (-1 : Int32))) σ) (h4 : (¬ ((σ.1 5 9) ≤ 0)) → (¬ (a0 < 0)) → (¬ ((3 : Int32) ≤ a0)) → ((σ.1 0 16) < (12 : Int32)) → (a1 = 0) → vp_in a0 3) (h5 : (¬ ((σ.1 5 9) ≤ 0)) → (¬ (a0 < 0)) → (¬ ((3 : Int32) ≤ a0)) → ((σ.1 0 16) < (12 : Int32)) → (¬ (a1 = 0)) → vp_in a0 3) (k6 : (¬ ((σ.1 5 9) ≤ 0)) → (¬ (a0 < 0)) → (¬ ((3 : Int32) ≤ a0)) → ((σ.1 0 16) < (12 : Int32)) → Q (some (ax_i ((σ.1 0 16) + (1 : Int32)))) (ax_ui (ax_ul (ax_ul σ 0 17 ((σ.2 0 17) * (if (a1 = 0) then (Int32.toInt64 ((10 : Int32) - (List.getD ([8, 7, 6] : List Int32) (Int32.toNatClampNeg a0) 0))) else (Int32.toInt64 (List.getD ([8, 7, 6] : List Int32) (Int32.toNatClampNeg a0) 0))))) 0 18 ((σ.2 0 18) * (if (a1 = 0) then (Int32.toInt64 ((10 : Int32) - (List.getD ([3, 1, 5] : List Int32) (Int32.toNatClampNeg a0) 0))) else (Int32.toInt64 (List.getD ([3, 1, 5] : List Int32) (Int32.toNatClampNeg a0) 0))))) 0 16 ((σ.1 0 16) + (1 : Int32)))) (k7 : (¬ ((σ.1 5 9) ≤ 0)) → (¬ (a0 < 0)) → (¬ ((3 : Int32) ≤ a0)) → (¬ ((σ.1 0 16) < (12 : Int32))) → Q (some (ax_i (-1 : Int32))) σ) : ax_W shC (d + 1) mX11_test Q 0 [some (ax_r 0), some (ax_i a0), some (ax_i a1)] [] σ := by
  refine ax_aload_n (q := 1) (i := 0) dX11_test_0 rfl rfl rfl ?_
  refine ax_callVfi (q := 4) (As := []) (st := []) (x := (if (¬ ((σ.1 5 9) ≤ 0)) then (1 : Int32) else 0)) (σ2 := σ) dX11_test_1 rfl lk_X11_274 shC_0 rfl rfl rfl rfl (Nat.le_of_ble_eq_true rfl) (f_X11_hasBelt σ   (d := d) (by omega)) ?_
  refine ax_if_eqB (tgt := 28) (q := 7) dX11_test_4 (by decide) rfl (fun c1 => ?_) (fun c1 => ?_)
  · refine ax_iconst (q := 29) dX11_test_28 rfl ki_m1 ?_
    exact ax_iret dX11_test_29 rfl rfl (k1 c1)
  · refine ax_iload_n (q := 8) (i := 1) dX11_test_7 rfl rfl rfl ?_
    refine ax_if_lt (tgt := 28) (q := 11) dX11_test_8 (by decide) rfl (fun c2 => ?_) (fun c2 => ?_)
    · refine ax_iconst (q := 29) dX11_test_28 rfl ki_m1 ?_
      exact ax_iret dX11_test_29 rfl rfl (k2 c1 c2)
    · refine ax_iload_n (q := 12) (i := 1) dX11_test_11 rfl rfl rfl ?_
      refine ax_gets (q := 15) dX11_test_12 rfl st_0 fl_X11_423 ?_
      refine ax_tlen (q := 16) (t := 0) (v := 3) dX11_test_15 rfl st_0 rfl ?_
      refine ax_icmp_ge (tgt := 28) (q := 19) dX11_test_16 (by decide) rfl (fun c3 => ?_) (fun c3 => ?_)
      · refine ax_iconst (q := 29) dX11_test_28 rfl ki_m1 ?_
        exact ax_iret dX11_test_29 rfl rfl (k3 c1 c2 c3)
      · refine ax_aload_n (q := 20) (i := 0) dX11_test_19 rfl rfl rfl ?_
        refine ax_get (q := 23) (k := 0) (j := 16) (v := ax_i (σ.1 0 16)) dX11_test_20 rfl shC_0 rfl rfl rfl (by decide) fl_X11_151 ?_
        refine ax_bipush (q := 25) dX11_test_23 rfl kb_12 ?_
        refine ax_icmp_lt (tgt := 30) (q := 28) dX11_test_25 (by decide) rfl (fun c4 => ?_) (fun c4 => ?_)
        · refine ax_aload_n (q := 31) (i := 0) dX11_test_30 rfl rfl rfl ?_
          refine ax_dupr (q := 32) dX11_test_31 rfl ?_
          refine ax_get (q := 35) (k := 0) (j := 17) (v := ax_l (σ.2 0 17)) dX11_test_32 rfl shC_0 rfl rfl rfl (by decide) fl_X11_103 ?_
          refine ax_iload_n (q := 36) (i := 2) dX11_test_35 rfl rfl rfl ?_
          have K6 : ax_W shC (d + 1) mX11_test Q 57 [some (ax_r 0), some (ax_i a0), some (ax_i a1)] [ax_l (if (a1 = 0) then (Int32.toInt64 ((10 : Int32) - (List.getD ([8, 7, 6] : List Int32) (Int32.toNatClampNeg a0) 0))) else (Int32.toInt64 (List.getD ([8, 7, 6] : List Int32) (Int32.toNatClampNeg a0) 0))), ax_l (σ.2 0 17), ax_r 0] σ := by
            refine ax_lmul (q := 58) dX11_test_57 rfl ?_
            refine ax_putl (q := 61) (k := 0) (j := 17) dX11_test_58 rfl shC_0 rfl rfl (by decide) fl_X11_103 rfl rfl rfl rfl ?_
            refine ax_aload_n (q := 62) (i := 0) dX11_test_61 rfl rfl rfl ?_
            refine ax_dupr (q := 63) dX11_test_62 rfl ?_
            refine ax_get (q := 66) (k := 0) (j := 18) (v := ax_l (σ.2 0 18)) dX11_test_63 rfl shC_0 rfl rfl rfl (by decide) fl_X11_107 ?_
            refine ax_iload_n (q := 67) (i := 2) dX11_test_66 rfl rfl rfl ?_
            have K8 : ax_W shC (d + 1) mX11_test Q 88 [some (ax_r 0), some (ax_i a0), some (ax_i a1)] [ax_l (if (a1 = 0) then (Int32.toInt64 ((10 : Int32) - (List.getD ([3, 1, 5] : List Int32) (Int32.toNatClampNeg a0) 0))) else (Int32.toInt64 (List.getD ([3, 1, 5] : List Int32) (Int32.toNatClampNeg a0) 0))), ax_l (σ.2 0 18), ax_r 0] (ax_ul σ 0 17 ((σ.2 0 17) * (if (a1 = 0) then (Int32.toInt64 ((10 : Int32) - (List.getD ([8, 7, 6] : List Int32) (Int32.toNatClampNeg a0) 0))) else (Int32.toInt64 (List.getD ([8, 7, 6] : List Int32) (Int32.toNatClampNeg a0) 0))))) := by
              refine ax_lmul (q := 89) dX11_test_88 rfl ?_
              refine ax_putl (q := 92) (k := 0) (j := 18) dX11_test_89 rfl shC_0 rfl rfl (by decide) fl_X11_107 rfl rfl rfl rfl ?_
              refine ax_aload_n (q := 93) (i := 0) dX11_test_92 rfl rfl rfl ?_
              refine ax_dupr (q := 94) dX11_test_93 rfl ?_
              refine ax_get (q := 97) (k := 0) (j := 16) (v := ax_i (σ.1 0 16)) dX11_test_94 rfl shC_0 rfl rfl rfl (by decide) fl_X11_151 ?_
              refine ax_iconst (q := 98) dX11_test_97 rfl ki_1 ?_
              refine ax_iadd (q := 99) dX11_test_98 rfl ?_
              refine ax_puti (q := 102) (k := 0) (j := 16) dX11_test_99 rfl shC_0 rfl rfl (by decide) fl_X11_151 rfl rfl rfl rfl ?_
              refine ax_aload_n (q := 103) (i := 0) dX11_test_102 rfl rfl rfl ?_
              refine ax_get (q := 106) (k := 0) (j := 16) (v := ax_i ((σ.1 0 16) + (1 : Int32))) dX11_test_103 rfl shC_0 rfl rfl rfl (by decide) fl_X11_151 ?_
              exact ax_iret dX11_test_106 rfl rfl (k6 c1 c2 c3 c4)
            refine ax_if_eq (tgt := 79) (q := 70) dX11_test_67 (by decide) rfl (fun c7 => ?_) (fun c7 => ?_)
            · refine ax_bipush (q := 81) dX11_test_79 rfl kb_10 ?_
              refine ax_gets (q := 84) dX11_test_81 rfl st_1 fl_X11_426 ?_
              refine ax_iload_n (q := 85) (i := 1) dX11_test_84 rfl rfl rfl ?_
              refine ax_tald (q := 86) (t := 1) dX11_test_85 rfl st_1 (h4 c1 c2 c3 c4 c7) rfl ?_
              refine ax_isub (q := 87) dX11_test_86 rfl ?_
              refine ax_i2l (q := 88) dX11_test_87 rfl ?_
              exact ax_cvl (if_pos c7) K8
            · refine ax_gets (q := 73) dX11_test_70 rfl st_1 fl_X11_426 ?_
              refine ax_iload_n (q := 74) (i := 1) dX11_test_73 rfl rfl rfl ?_
              refine ax_tald (q := 75) (t := 1) dX11_test_74 rfl st_1 (h5 c1 c2 c3 c4 c7) rfl ?_
              refine ax_i2l (q := 76) dX11_test_75 rfl ?_
              refine ax_goto (tgt := 88) dX11_test_76 (by decide) ?_
              exact ax_cvl (if_neg c7) K8
          refine ax_if_eq (tgt := 48) (q := 39) dX11_test_36 (by decide) rfl (fun c5 => ?_) (fun c5 => ?_)
          · refine ax_bipush (q := 50) dX11_test_48 rfl kb_10 ?_
            refine ax_gets (q := 53) dX11_test_50 rfl st_0 fl_X11_423 ?_
            refine ax_iload_n (q := 54) (i := 1) dX11_test_53 rfl rfl rfl ?_
            refine ax_tald (q := 55) (t := 0) dX11_test_54 rfl st_0 (h4 c1 c2 c3 c4 c5) rfl ?_
            refine ax_isub (q := 56) dX11_test_55 rfl ?_
            refine ax_i2l (q := 57) dX11_test_56 rfl ?_
            exact ax_cvl (if_pos c5) K6
          · refine ax_gets (q := 42) dX11_test_39 rfl st_0 fl_X11_423 ?_
            refine ax_iload_n (q := 43) (i := 1) dX11_test_42 rfl rfl rfl ?_
            refine ax_tald (q := 44) (t := 0) dX11_test_43 rfl st_0 (h5 c1 c2 c3 c4 c5) rfl ?_
            refine ax_i2l (q := 45) dX11_test_44 rfl ?_
            refine ax_goto (tgt := 57) dX11_test_45 (by decide) ?_
            exact ax_cvl (if_neg c5) K6
        · refine ax_iconst (q := 29) dX11_test_28 rfl ki_m1 ?_
          exact ax_iret dX11_test_29 rfl rfl (k7 c1 c2 c3 c4)
set_option maxRecDepth 20000 in
theorem f_X11_stroke (σ : ax_S)  (h1 : (¬ ((σ.1 5 9) ≤ 0)) → (0 ≤ (lg_cmp ((σ.2 0 17) + (σ.2 0 18)) (1 : Int64))) → ¬ ((σ.2 0 17) + (σ.2 0 18)) = 0) {d : Nat} (hd : 2 ≤ d) : ax_Ct shC d mX11_stroke [ax_r 0] (fun r u => r = some (ax_i (if (¬ (¬ ((σ.1 5 9) ≤ 0))) then (-1 : Int32) else (if (0 ≤ (lg_cmp ((σ.2 0 17) + (σ.2 0 18)) (1 : Int64))) then (Int64.toInt32 (((σ.2 0 17) * (1000000 : Int64)) / ((σ.2 0 17) + (σ.2 0 18)))) else (-1 : Int32)))) ∧ u = σ) σ := by
  obtain ⟨d, rfl⟩ : ∃ e, d = e + 1 := ⟨d - 1, by omega⟩
  refine ax_Ct.of (lv := [some (ax_r 0), none, none]) (by decide +kernel) (fun ad => Nat.le_of_ble_eq_true rfl) (fun ad => rfl) ?_
  refine ax_aload_n (q := 1) (i := 0) dX11_stroke_0 rfl rfl rfl ?_
  refine ax_get (q := 4) (k := 0) (j := 17) (v := ax_l (σ.2 0 17)) dX11_stroke_1 rfl shC_0 rfl rfl rfl (by decide) fl_X11_103 ?_
  refine ax_aload_n (q := 5) (i := 0) dX11_stroke_4 rfl rfl rfl ?_
  refine ax_get (q := 8) (k := 0) (j := 18) (v := ax_l (σ.2 0 18)) dX11_stroke_5 rfl shC_0 rfl rfl rfl (by decide) fl_X11_107 ?_
  refine ax_ladd (q := 9) dX11_stroke_8 rfl ?_
  refine ax_lstore_n (q := 10) (i := 1) (lv2 := [some (ax_r 0), some (ax_l ((σ.2 0 17) + (σ.2 0 18))), none]) dX11_stroke_9 rfl rfl (by decide) rfl rfl ?_
  refine ax_aload_n (q := 11) (i := 0) dX11_stroke_10 rfl rfl rfl ?_
  refine ax_callVfi (q := 14) (As := []) (st := []) (x := (if (¬ ((σ.1 5 9) ≤ 0)) then (1 : Int32) else 0)) (σ2 := σ) dX11_stroke_11 rfl lk_X11_274 shC_0 rfl rfl rfl rfl (Nat.le_of_ble_eq_true rfl) (f_X11_hasBelt σ   (d := d) (by omega)) ?_
  have K3 : ax_W shC (d + 1) mX11_stroke (fun r u => r = some (ax_i (if (¬ (¬ ((σ.1 5 9) ≤ 0))) then (-1 : Int32) else (if (0 ≤ (lg_cmp ((σ.2 0 17) + (σ.2 0 18)) (1 : Int64))) then (Int64.toInt32 (((σ.2 0 17) * (1000000 : Int64)) / ((σ.2 0 17) + (σ.2 0 18)))) else (-1 : Int32)))) ∧ u = σ) 38 [some (ax_r 0), some (ax_l ((σ.2 0 17) + (σ.2 0 18))), none] [ax_i (if (¬ (¬ ((σ.1 5 9) ≤ 0))) then (-1 : Int32) else (if (0 ≤ (lg_cmp ((σ.2 0 17) + (σ.2 0 18)) (1 : Int64))) then (Int64.toInt32 (((σ.2 0 17) * (1000000 : Int64)) / ((σ.2 0 17) + (σ.2 0 18)))) else (-1 : Int32)))] σ := by
    exact ax_iret dX11_stroke_38 rfl rfl ⟨rfl, rfl⟩
  refine ax_if_eqB (tgt := 23) (q := 17) dX11_stroke_14 (by decide) rfl (fun c1 => ?_) (fun c1 => ?_)
  · refine ax_iconst (q := 24) dX11_stroke_23 rfl ki_m1 ?_
    refine ax_goto (tgt := 38) dX11_stroke_24 (by decide) ?_
    exact ax_cv (if_pos c1) K3
  · refine ax_lload_n (q := 18) (i := 1) dX11_stroke_17 rfl rfl rfl ?_
    refine ax_lconst (q := 19) (v := 1) dX11_stroke_18 rfl rfl ?_
    refine ax_lcmp (q := 20) dX11_stroke_19 rfl ?_
    refine ax_if_ge (tgt := 27) (q := 23) dX11_stroke_20 (by decide) rfl (fun c2 => ?_) (fun c2 => ?_)
    · refine ax_aload_n (q := 28) (i := 0) dX11_stroke_27 rfl rfl rfl ?_
      refine ax_get (q := 31) (k := 0) (j := 17) (v := ax_l (σ.2 0 17)) dX11_stroke_28 rfl shC_0 rfl rfl rfl (by decide) fl_X11_103 ?_
      refine ax_ldc2 (q := 34) dX11_stroke_31 rfl kc_X11_429 ?_
      refine ax_lmul (q := 35) dX11_stroke_34 rfl ?_
      refine ax_lload_n (q := 36) (i := 1) dX11_stroke_35 rfl rfl rfl ?_
      refine ax_ldiv (q := 37) dX11_stroke_36 rfl (h1 c1 c2) ?_
      refine ax_l2i (q := 38) dX11_stroke_37 rfl ?_
      exact ax_cv ((if_neg (fun y => y c1)).trans (if_pos c2)) K3
    · refine ax_iconst (q := 24) dX11_stroke_23 rfl ki_m1 ?_
      refine ax_goto (tgt := 38) dX11_stroke_24 (by decide) ?_
      exact ax_cv ((if_neg (fun y => y c1)).trans (if_neg c2)) K3
set_option maxRecDepth 20000 in
theorem f_X12_in {sh : List ax_H} (σ : ax_S) (a0 : Int32) (a1 : Int32) (a2 : Int32)  {d : Nat} (hd : 1 ≤ d) : ax_Ct sh d mX12_in [ax_i a0, ax_i a1, ax_i a2] (fun r u => r = some (ax_i (if ((¬ (a0 < a1)) ∧ (¬ (a2 < a0))) then (1 : Int32) else 0)) ∧ u = σ) σ := by
  obtain ⟨d, rfl⟩ : ∃ e, d = e + 1 := ⟨d - 1, by omega⟩
  refine ax_Ct.of (lv := [some (ax_i a0), some (ax_i a1), some (ax_i a2)]) (by decide +kernel) (fun ad => Nat.le_of_ble_eq_true rfl) (fun ad => rfl) ?_
  refine ax_iload_n (q := 1) (i := 0) dX12_in_0 rfl rfl rfl ?_
  refine ax_iload_n (q := 2) (i := 1) dX12_in_1 rfl rfl rfl ?_
  have K3 : ax_W sh (d + 1) mX12_in (fun r u => r = some (ax_i (if ((¬ (a0 < a1)) ∧ (¬ (a2 < a0))) then (1 : Int32) else 0)) ∧ u = σ) 15 [some (ax_i a0), some (ax_i a1), some (ax_i a2)] [ax_i (if ((¬ (a0 < a1)) ∧ (¬ (a2 < a0))) then (1 : Int32) else 0)] σ := by
    exact ax_iret dX12_in_15 rfl (ax_nb _) ⟨rfl, rfl⟩
  refine ax_icmp_lt (tgt := 14) (q := 5) dX12_in_2 (by decide) rfl (fun c1 => ?_) (fun c1 => ?_)
  · refine ax_iconst (q := 15) dX12_in_14 rfl ki_0 ?_
    exact ax_cv (if_neg (fun z => (fun y => y c1) z.1)) K3
  · refine ax_iload_n (q := 6) (i := 0) dX12_in_5 rfl rfl rfl ?_
    refine ax_iload_n (q := 7) (i := 2) dX12_in_6 rfl rfl rfl ?_
    refine ax_icmp_gt (tgt := 14) (q := 10) dX12_in_7 (by decide) rfl (fun c2 => ?_) (fun c2 => ?_)
    · refine ax_iconst (q := 15) dX12_in_14 rfl ki_0 ?_
      exact ax_cv (if_neg (fun z => (fun y => y c2) z.2)) K3
    · refine ax_iconst (q := 11) dX12_in_10 rfl ki_1 ?_
      refine ax_goto (tgt := 15) dX12_in_11 (by decide) ?_
      exact ax_cv (if_pos ⟨c1, c2⟩) K3
set_option maxRecDepth 20000 in
theorem f_X12_has {sh : List ax_H} (σ : ax_S) (a0 : Int32) (a1 : Int32)  {d : Nat} (hd : 1 ≤ d) : ax_Ct sh d mX12_has [ax_i a0, ax_i a1] (fun r u => r = some (ax_i (if (¬ (¬ ((a0 >>> (a1 &&& 31)) &&& (1 : Int32)) = (1 : Int32))) then (1 : Int32) else 0)) ∧ u = σ) σ := by
  obtain ⟨d, rfl⟩ : ∃ e, d = e + 1 := ⟨d - 1, by omega⟩
  refine ax_Ct.of (lv := [some (ax_i a0), some (ax_i a1)]) (by decide +kernel) (fun ad => Nat.le_of_ble_eq_true rfl) (fun ad => rfl) ?_
  refine ax_iload_n (q := 1) (i := 0) dX12_has_0 rfl rfl rfl ?_
  refine ax_iload_n (q := 2) (i := 1) dX12_has_1 rfl rfl rfl ?_
  refine ax_ishr (q := 3) dX12_has_2 rfl ?_
  refine ax_iconst (q := 4) dX12_has_3 rfl ki_1 ?_
  refine ax_iand (q := 5) dX12_has_4 rfl ?_
  refine ax_iconst (q := 6) dX12_has_5 rfl ki_1 ?_
  have K2 : ax_W sh (d + 1) mX12_has (fun r u => r = some (ax_i (if (¬ (¬ ((a0 >>> (a1 &&& 31)) &&& (1 : Int32)) = (1 : Int32))) then (1 : Int32) else 0)) ∧ u = σ) 14 [some (ax_i a0), some (ax_i a1)] [ax_i (if (¬ (¬ ((a0 >>> (a1 &&& 31)) &&& (1 : Int32)) = (1 : Int32))) then (1 : Int32) else 0)] σ := by
    exact ax_iret dX12_has_14 rfl (ax_nb _) ⟨rfl, rfl⟩
  refine ax_icmp_ne (tgt := 13) (q := 9) dX12_has_6 (by decide) rfl (fun c1 => ?_) (fun c1 => ?_)
  · refine ax_iconst (q := 14) dX12_has_13 rfl ki_0 ?_
    exact ax_cv (if_neg (fun y => y c1)) K2
  · refine ax_iconst (q := 10) dX12_has_9 rfl ki_1 ?_
    refine ax_goto (tgt := 14) dX12_has_10 (by decide) ?_
    exact ax_cv (if_pos c1) K2
set_option maxRecDepth 20000 in
theorem f_X12_thrown (σ : ax_S)   {d : Nat} (hd : 1 ≤ d) : ax_Ct shM d mX12_thrown [ax_r 0] (fun r u => r = some (ax_i (σ.1 0 0)) ∧ u = σ) σ := by
  obtain ⟨d, rfl⟩ : ∃ e, d = e + 1 := ⟨d - 1, by omega⟩
  refine ax_Ct.of (lv := [some (ax_r 0)]) (by decide +kernel) (fun ad => Nat.le_of_ble_eq_true rfl) (fun ad => rfl) ?_
  refine ax_aload_n (q := 1) (i := 0) dX12_thrown_0 rfl rfl rfl ?_
  refine ax_get (q := 4) (k := 0) (j := 0) (v := ax_i (σ.1 0 0)) dX12_thrown_1 rfl shM_0 rfl rfl rfl (by decide) fl_X12_108 ?_
  exact ax_iret dX12_thrown_4 rfl rfl ⟨rfl, rfl⟩
def v_X12_byteOf (a0 : Int32) (a1 : Int32) (a2 : Int32) (a3 : Int32) (a4 : Int32) (a5 : Int32) : Int32 := (((if ((4 : Int32) ≤ a5) then (if ((8 : Int32) ≤ a5) then (if ((12 : Int32) ≤ a5) then (if ((16 : Int32) ≤ a5) then a4 else a3) else a2) else a1) else a0) >>> (((24 : Int32) - ((8 : Int32) * (a5 - a5 / (4 : Int32) * (4 : Int32)))) &&& 31)) &&& (255 : Int32))
set_option maxRecDepth 20000 in
theorem f_X12_byteOf {sh : List ax_H} (σ : ax_S) (a0 : Int32) (a1 : Int32) (a2 : Int32) (a3 : Int32) (a4 : Int32) (a5 : Int32) (h1 : ¬ (4 : Int32) = 0) {d : Nat} (hd : 1 ≤ d) : ax_Ct sh d mX12_byteOf [ax_i a0, ax_i a1, ax_i a2, ax_i a3, ax_i a4, ax_i a5] (fun r u => r = some (ax_i (v_X12_byteOf a0 a1 a2 a3 a4 a5)) ∧ u = σ) σ := by
  obtain ⟨d, rfl⟩ : ∃ e, d = e + 1 := ⟨d - 1, by omega⟩
  refine ax_Ct.of (lv := [some (ax_i a0), some (ax_i a1), some (ax_i a2), some (ax_i a3), some (ax_i a4), some (ax_i a5), none]) (by decide +kernel) (fun ad => Nat.le_of_ble_eq_true rfl) (fun ad => rfl) ?_
  refine ax_iload (q := 2) dX12_byteOf_0 rfl rfl ?_
  refine ax_iconst (q := 3) dX12_byteOf_2 rfl ki_4 ?_
  have K5 : ax_W sh (d + 1) mX12_byteOf (fun r u => r = some (ax_i (v_X12_byteOf a0 a1 a2 a3 a4 a5)) ∧ u = σ) 45 [some (ax_i a0), some (ax_i a1), some (ax_i a2), some (ax_i a3), some (ax_i a4), some (ax_i a5), none] [ax_i (if ((4 : Int32) ≤ a5) then (if ((8 : Int32) ≤ a5) then (if ((12 : Int32) ≤ a5) then (if ((16 : Int32) ≤ a5) then a4 else a3) else a2) else a1) else a0)] σ := by
    refine ax_istore (q := 47) (lv2 := [some (ax_i a0), some (ax_i a1), some (ax_i a2), some (ax_i a3), some (ax_i a4), some (ax_i a5), some (ax_i (if ((4 : Int32) ≤ a5) then (if ((8 : Int32) ≤ a5) then (if ((12 : Int32) ≤ a5) then (if ((16 : Int32) ≤ a5) then a4 else a3) else a2) else a1) else a0))]) dX12_byteOf_45 rfl (by decide) rfl rfl ?_
    refine ax_iload (q := 49) dX12_byteOf_47 rfl rfl ?_
    refine ax_bipush (q := 51) dX12_byteOf_49 rfl kb_24 ?_
    refine ax_bipush (q := 53) dX12_byteOf_51 rfl kb_8 ?_
    refine ax_iload (q := 55) dX12_byteOf_53 rfl rfl ?_
    refine ax_iconst (q := 56) dX12_byteOf_55 rfl ki_4 ?_
    refine ax_irem (q := 57) dX12_byteOf_56 rfl h1 ?_
    refine ax_imul (q := 58) dX12_byteOf_57 rfl ?_
    refine ax_isub (q := 59) dX12_byteOf_58 rfl ?_
    refine ax_ishr (q := 60) dX12_byteOf_59 rfl ?_
    refine ax_sipush (q := 63) dX12_byteOf_60 rfl ks_255 ?_
    refine ax_iand (q := 64) dX12_byteOf_63 rfl ?_
    exact ax_iret dX12_byteOf_64 rfl rfl ⟨rfl, rfl⟩
  refine ax_icmp_ge (tgt := 10) (q := 6) dX12_byteOf_3 (by decide) rfl (fun c1 => ?_) (fun c1 => ?_)
  · refine ax_iload (q := 12) dX12_byteOf_10 rfl rfl ?_
    refine ax_bipush (q := 14) dX12_byteOf_12 rfl kb_8 ?_
    refine ax_icmp_ge (tgt := 21) (q := 17) dX12_byteOf_14 (by decide) rfl (fun c2 => ?_) (fun c2 => ?_)
    · refine ax_iload (q := 23) dX12_byteOf_21 rfl rfl ?_
      refine ax_bipush (q := 25) dX12_byteOf_23 rfl kb_12 ?_
      refine ax_icmp_ge (tgt := 32) (q := 28) dX12_byteOf_25 (by decide) rfl (fun c3 => ?_) (fun c3 => ?_)
      · refine ax_iload (q := 34) dX12_byteOf_32 rfl rfl ?_
        refine ax_bipush (q := 36) dX12_byteOf_34 rfl kb_16 ?_
        refine ax_icmp_ge (tgt := 43) (q := 39) dX12_byteOf_36 (by decide) rfl (fun c4 => ?_) (fun c4 => ?_)
        · refine ax_iload (q := 45) dX12_byteOf_43 rfl rfl ?_
          exact ax_cv ((if_pos c1).trans ((if_pos c2).trans ((if_pos c3).trans (if_pos c4)))) K5
        · refine ax_iload_n (q := 40) (i := 3) dX12_byteOf_39 rfl rfl rfl ?_
          refine ax_goto (tgt := 45) dX12_byteOf_40 (by decide) ?_
          exact ax_cv ((if_pos c1).trans ((if_pos c2).trans ((if_pos c3).trans (if_neg c4)))) K5
      · refine ax_iload_n (q := 29) (i := 2) dX12_byteOf_28 rfl rfl rfl ?_
        refine ax_goto (tgt := 45) dX12_byteOf_29 (by decide) ?_
        exact ax_cv ((if_pos c1).trans ((if_pos c2).trans (if_neg c3))) K5
    · refine ax_iload_n (q := 18) (i := 1) dX12_byteOf_17 rfl rfl rfl ?_
      refine ax_goto (tgt := 45) dX12_byteOf_18 (by decide) ?_
      exact ax_cv ((if_pos c1).trans (if_neg c2)) K5
  · refine ax_iload_n (q := 7) (i := 0) dX12_byteOf_6 rfl rfl rfl ?_
    refine ax_goto (tgt := 45) dX12_byteOf_7 (by decide) ?_
    exact ax_cv (if_neg c1) K5
set_option maxRecDepth 20000 in
theorem s_X12_feed_0 {d : Nat} (hd : 0 ≤ d) {Q : Option ax_V → ax_S → Prop} (σ : ax_S) (a0 : Int32) (a1 : Int32) (a2 : Int32) (a3 : Int32) (a4 : Int32) (k1 : ax_W shM (d + 1) mX12_feed Q 6 [some (ax_r 0), some (ax_i a0), some (ax_i a1), some (ax_i a2), some (ax_i a3), some (ax_i a4), some (ax_i (0 : Int32)), some (ax_i (0 : Int32)), none] [] σ) : ax_W shM (d + 1) mX12_feed Q 0 [some (ax_r 0), some (ax_i a0), some (ax_i a1), some (ax_i a2), some (ax_i a3), some (ax_i a4), none, none, none] [] σ := by
  refine ax_iconst (q := 1) dX12_feed_0 rfl ki_0 ?_
  refine ax_istore (q := 3) (lv2 := [some (ax_r 0), some (ax_i a0), some (ax_i a1), some (ax_i a2), some (ax_i a3), some (ax_i a4), some (ax_i (0 : Int32)), none, none]) dX12_feed_1 rfl (by decide) rfl rfl ?_
  refine ax_iconst (q := 4) dX12_feed_3 rfl ki_0 ?_
  refine ax_istore (q := 6) (lv2 := [some (ax_r 0), some (ax_i a0), some (ax_i a1), some (ax_i a2), some (ax_i a3), some (ax_i a4), some (ax_i (0 : Int32)), some (ax_i (0 : Int32)), none]) dX12_feed_4 rfl (by decide) rfl rfl ?_
  exact k1
set_option maxRecDepth 20000 in
theorem s_X12_feed_6 {d : Nat} (hd : 1 ≤ d) {Q : Option ax_V → ax_S → Prop} (σ : ax_S) (x1 : Int32) (x2 : Int32) (x3 : Int32) (x4 : Int32) (x5 : Int32) (x6 : Int32) (x7 : Int32) (k1 : ((20 : Int32) ≤ x7) → (((σ.1 0 2) + x6) ≤ (240 : Int32)) → ax_W shM (d + 1) mX12_feed Q 62 [some (ax_r 0), some (ax_i x1), some (ax_i x2), some (ax_i x3), some (ax_i x4), some (ax_i x5), none, some (ax_i (0 : Int32)), none] [] σ) (k2 : ((20 : Int32) ≤ x7) → (¬ (((σ.1 0 2) + x6) ≤ (240 : Int32))) → Q (some (ax_i (-1 : Int32))) σ) (k3 : (¬ ((20 : Int32) ≤ x7)) → ax_W shM (d + 1) mX12_feed Q 6 [some (ax_r 0), some (ax_i x1), some (ax_i x2), some (ax_i x3), some (ax_i x4), some (ax_i x5), some (ax_i (x6 + (if (¬ ((v_X12_byteOf x1 x2 x3 x4 x5 x7) = 0)) then (1 : Int32) else 0))), some (ax_i (x7 + (1 : Int32))), none] [] σ) : ax_W shM (d + 1) mX12_feed Q 6 [some (ax_r 0), some (ax_i x1), some (ax_i x2), some (ax_i x3), some (ax_i x4), some (ax_i x5), some (ax_i x6), some (ax_i x7), none] [] σ := by
  refine ax_iload (q := 8) dX12_feed_6 rfl rfl ?_
  refine ax_bipush (q := 10) dX12_feed_8 rfl kb_20 ?_
  refine ax_icmp_ge (tgt := 44) (q := 13) dX12_feed_10 (by decide) rfl (fun c1 => ?_) (fun c1 => ?_)
  · refine ax_aload_n (q := 45) (i := 0) dX12_feed_44 rfl rfl rfl ?_
    refine ax_get (q := 48) (k := 0) (j := 2) (v := ax_i (σ.1 0 2)) dX12_feed_45 rfl shM_0 rfl rfl rfl (by decide) fl_X12_115 ?_
    refine ax_iload (q := 50) dX12_feed_48 rfl rfl ?_
    refine ax_iadd (q := 51) dX12_feed_50 rfl ?_
    refine ax_sipush (q := 54) dX12_feed_51 rfl ks_240 ?_
    refine ax_icmp_le (tgt := 59) (q := 57) dX12_feed_54 (by decide) rfl (fun c2 => ?_) (fun c2 => ?_)
    · refine ax_iconst (q := 60) dX12_feed_59 rfl ki_0 ?_
      refine ax_istore (q := 62) (lv2 := [some (ax_r 0), some (ax_i x1), some (ax_i x2), some (ax_i x3), some (ax_i x4), some (ax_i x5), some (ax_i x6), some (ax_i (0 : Int32)), none]) dX12_feed_60 rfl (by decide) rfl rfl ?_
      refine ax_fg (lv2 := [some (ax_r 0), some (ax_i x1), some (ax_i x2), some (ax_i x3), some (ax_i x4), some (ax_i x5), none, some (ax_i (0 : Int32)), none]) ⟨rfl, rfl, rfl, rfl, rfl, rfl, rfl, trivial⟩ ?_
      exact (k1 c1 c2)
    · refine ax_iconst (q := 58) dX12_feed_57 rfl ki_m1 ?_
      exact ax_iret dX12_feed_58 rfl rfl (k2 c1 c2)
  · refine ax_iload (q := 15) dX12_feed_13 rfl rfl ?_
    refine ax_iload_n (q := 16) (i := 1) dX12_feed_15 rfl rfl rfl ?_
    refine ax_iload_n (q := 17) (i := 2) dX12_feed_16 rfl rfl rfl ?_
    refine ax_iload_n (q := 18) (i := 3) dX12_feed_17 rfl rfl rfl ?_
    refine ax_iload (q := 20) dX12_feed_18 rfl rfl ?_
    refine ax_iload (q := 22) dX12_feed_20 rfl rfl ?_
    refine ax_iload (q := 24) dX12_feed_22 rfl rfl ?_
    refine ax_callSfi (q := 27) (As := [ax_i x1, ax_i x2, ax_i x3, ax_i x4, ax_i x5, ax_i x7]) (st := [ax_i x6]) (x := (v_X12_byteOf x1 x2 x3 x4 x5 x7)) (σ2 := σ) dX12_feed_24 rfl lk_X12_111 rfl rfl (Nat.le_of_ble_eq_true rfl) (f_X12_byteOf (sh := shM) σ x1 x2 x3 x4 x5 x7 (by decide) (d := d) (by omega)) ?_
    have K4 : ax_W shM (d + 1) mX12_feed Q 35 [some (ax_r 0), some (ax_i x1), some (ax_i x2), some (ax_i x3), some (ax_i x4), some (ax_i x5), some (ax_i x6), some (ax_i x7), none] [ax_i (if (¬ ((v_X12_byteOf x1 x2 x3 x4 x5 x7) = 0)) then (1 : Int32) else 0), ax_i x6] σ := by
      refine ax_iadd (q := 36) dX12_feed_35 rfl ?_
      refine ax_istore (q := 38) (lv2 := [some (ax_r 0), some (ax_i x1), some (ax_i x2), some (ax_i x3), some (ax_i x4), some (ax_i x5), some (ax_i (x6 + (if (¬ ((v_X12_byteOf x1 x2 x3 x4 x5 x7) = 0)) then (1 : Int32) else 0))), some (ax_i x7), none]) dX12_feed_36 rfl (by decide) rfl rfl ?_
      refine ax_iincK (q := 41) (lv2 := [some (ax_r 0), some (ax_i x1), some (ax_i x2), some (ax_i x3), some (ax_i x4), some (ax_i x5), some (ax_i (x6 + (if (¬ ((v_X12_byteOf x1 x2 x3 x4 x5 x7) = 0)) then (1 : Int32) else 0))), some (ax_i (x7 + (1 : Int32))), none]) dX12_feed_38 rfl rfl ki_1 (by decide) rfl rfl ?_
      refine ax_goto (tgt := 6) dX12_feed_41 (by decide) ?_
      exact (k3 c1)
    refine ax_if_eq (tgt := 34) (q := 30) dX12_feed_27 (by decide) rfl (fun c3 => ?_) (fun c3 => ?_)
    · refine ax_iconst (q := 35) dX12_feed_34 rfl ki_0 ?_
      exact ax_cv (if_neg (fun y => y c3)) K4
    · refine ax_iconst (q := 31) dX12_feed_30 rfl ki_1 ?_
      refine ax_goto (tgt := 35) dX12_feed_31 (by decide) ?_
      exact ax_cv (if_pos c3) K4
set_option maxRecDepth 20000 in
theorem s_X12_feed_62 {d : Nat} (hd : 1 ≤ d) {Q : Option ax_V → ax_S → Prop} (σ : ax_S) (x1 : Int32) (x2 : Int32) (x3 : Int32) (x4 : Int32) (x5 : Int32) (x7 : Int32) (k1 : ((20 : Int32) ≤ x7) → Q (some (ax_i (σ.1 0 2))) σ) (k2 : (¬ ((20 : Int32) ≤ x7)) → ((v_X12_byteOf x1 x2 x3 x4 x5 x7) = 0) → ax_W shM (d + 1) mX12_feed Q 62 [some (ax_r 0), some (ax_i x1), some (ax_i x2), some (ax_i x3), some (ax_i x4), some (ax_i x5), none, some (ax_i (x7 + (1 : Int32))), none] [] σ) (h3 : (¬ ((20 : Int32) ≤ x7)) → (¬ ((v_X12_byteOf x1 x2 x3 x4 x5 x7) = 0)) → vp_in (σ.1 0 2) 240) (k4 : (¬ ((20 : Int32) ≤ x7)) → (¬ ((v_X12_byteOf x1 x2 x3 x4 x5 x7) = 0)) → ax_W shM (d + 1) mX12_feed Q 62 [some (ax_r 0), some (ax_i x1), some (ax_i x2), some (ax_i x3), some (ax_i x4), some (ax_i x5), none, some (ax_i (x7 + (1 : Int32))), none] [] (ax_ui (ax_ui σ 1 (Int32.toNatClampNeg (σ.1 0 2)) (v_X12_byteOf x1 x2 x3 x4 x5 x7)) 0 2 ((σ.1 0 2) + (1 : Int32)))) : ax_W shM (d + 1) mX12_feed Q 62 [some (ax_r 0), some (ax_i x1), some (ax_i x2), some (ax_i x3), some (ax_i x4), some (ax_i x5), none, some (ax_i x7), none] [] σ := by
  refine ax_iload (q := 64) dX12_feed_62 rfl rfl ?_
  refine ax_bipush (q := 66) dX12_feed_64 rfl kb_20 ?_
  refine ax_icmp_ge (tgt := 115) (q := 69) dX12_feed_66 (by decide) rfl (fun c1 => ?_) (fun c1 => ?_)
  · refine ax_aload_n (q := 116) (i := 0) dX12_feed_115 rfl rfl rfl ?_
    refine ax_get (q := 119) (k := 0) (j := 2) (v := ax_i (σ.1 0 2)) dX12_feed_116 rfl shM_0 rfl rfl rfl (by decide) fl_X12_115 ?_
    exact ax_iret dX12_feed_119 rfl rfl (k1 c1)
  · refine ax_iload_n (q := 70) (i := 1) dX12_feed_69 rfl rfl rfl ?_
    refine ax_iload_n (q := 71) (i := 2) dX12_feed_70 rfl rfl rfl ?_
    refine ax_iload_n (q := 72) (i := 3) dX12_feed_71 rfl rfl rfl ?_
    refine ax_iload (q := 74) dX12_feed_72 rfl rfl ?_
    refine ax_iload (q := 76) dX12_feed_74 rfl rfl ?_
    refine ax_iload (q := 78) dX12_feed_76 rfl rfl ?_
    refine ax_callSfi (q := 81) (As := [ax_i x1, ax_i x2, ax_i x3, ax_i x4, ax_i x5, ax_i x7]) (st := []) (x := (v_X12_byteOf x1 x2 x3 x4 x5 x7)) (σ2 := σ) dX12_feed_78 rfl lk_X12_111 rfl rfl (Nat.le_of_ble_eq_true rfl) (f_X12_byteOf (sh := shM) σ x1 x2 x3 x4 x5 x7 (by decide) (d := d) (by omega)) ?_
    refine ax_istore (q := 83) (lv2 := [some (ax_r 0), some (ax_i x1), some (ax_i x2), some (ax_i x3), some (ax_i x4), some (ax_i x5), none, some (ax_i x7), some (ax_i (v_X12_byteOf x1 x2 x3 x4 x5 x7))]) dX12_feed_81 rfl (by decide) rfl rfl ?_
    refine ax_iload (q := 85) dX12_feed_83 rfl rfl ?_
    refine ax_if_eq (tgt := 109) (q := 88) dX12_feed_85 (by decide) rfl (fun c2 => ?_) (fun c2 => ?_)
    · refine ax_iincK (q := 112) (lv2 := [some (ax_r 0), some (ax_i x1), some (ax_i x2), some (ax_i x3), some (ax_i x4), some (ax_i x5), none, some (ax_i (x7 + (1 : Int32))), some (ax_i (v_X12_byteOf x1 x2 x3 x4 x5 x7))]) dX12_feed_109 rfl rfl ki_1 (by decide) rfl rfl ?_
      refine ax_goto (tgt := 62) dX12_feed_112 (by decide) ?_
      refine ax_fg (lv2 := [some (ax_r 0), some (ax_i x1), some (ax_i x2), some (ax_i x3), some (ax_i x4), some (ax_i x5), none, some (ax_i (x7 + (1 : Int32))), none]) ⟨rfl, rfl, rfl, rfl, rfl, rfl, rfl, trivial⟩ ?_
      exact (k2 c1 c2)
    · refine ax_aload_n (q := 89) (i := 0) dX12_feed_88 rfl rfl rfl ?_
      refine ax_get (q := 92) (k := 0) (j := 1) (v := ax_r 1) dX12_feed_89 rfl shM_0 rfl rfl rfl (by decide) fl_X12_9 ?_
      refine ax_aload_n (q := 93) (i := 0) dX12_feed_92 rfl rfl rfl ?_
      refine ax_get (q := 96) (k := 0) (j := 2) (v := ax_i (σ.1 0 2)) dX12_feed_93 rfl shM_0 rfl rfl rfl (by decide) fl_X12_115 ?_
      refine ax_iload (q := 98) dX12_feed_96 rfl rfl ?_
      refine ax_iast (q := 99) (a := (Int32.toNatClampNeg (σ.1 0 2))) dX12_feed_98 rfl shM_1 (h3 c1 c2) rfl ?_
      refine ax_aload_n (q := 100) (i := 0) dX12_feed_99 rfl rfl rfl ?_
      refine ax_dupr (q := 101) dX12_feed_100 rfl ?_
      refine ax_get (q := 104) (k := 0) (j := 2) (v := ax_i (σ.1 0 2)) dX12_feed_101 rfl shM_0 rfl rfl rfl (by decide) fl_X12_115 ?_
      refine ax_iconst (q := 105) dX12_feed_104 rfl ki_1 ?_
      refine ax_iadd (q := 106) dX12_feed_105 rfl ?_
      refine ax_puti (q := 109) (k := 0) (j := 2) dX12_feed_106 rfl shM_0 rfl rfl (by decide) fl_X12_115 rfl rfl rfl rfl ?_
      refine ax_iincK (q := 112) (lv2 := [some (ax_r 0), some (ax_i x1), some (ax_i x2), some (ax_i x3), some (ax_i x4), some (ax_i x5), none, some (ax_i (x7 + (1 : Int32))), some (ax_i (v_X12_byteOf x1 x2 x3 x4 x5 x7))]) dX12_feed_109 rfl rfl ki_1 (by decide) rfl rfl ?_
      refine ax_goto (tgt := 62) dX12_feed_112 (by decide) ?_
      refine ax_fg (lv2 := [some (ax_r 0), some (ax_i x1), some (ax_i x2), some (ax_i x3), some (ax_i x4), some (ax_i x5), none, some (ax_i (x7 + (1 : Int32))), none]) ⟨rfl, rfl, rfl, rfl, rfl, rfl, rfl, trivial⟩ ?_
      exact (k4 c1 c2)
set_option maxRecDepth 20000 in
theorem s_X12_end_0 {d : Nat} (hd : 0 ≤ d) {Q : Option ax_V → ax_S → Prop} (σ : ax_S) (a0 : Int32) (k1 : (a0 < 0) → Q (some (ax_i (0 : Int32))) σ) (k2 : (¬ (a0 < 0)) → (a0 ≤ (σ.1 0 2)) → Q (some (ax_i (1 : Int32))) (ax_ui σ 0 2 a0)) (k3 : (¬ (a0 < 0)) → (¬ (a0 ≤ (σ.1 0 2))) → Q (some (ax_i (0 : Int32))) σ) : ax_W shM (d + 1) mX12_end Q 0 [some (ax_r 0), some (ax_i a0)] [] σ := by
  refine ax_iload_n (q := 1) (i := 1) dX12_end_0 rfl rfl rfl ?_
  refine ax_if_lt (tgt := 12) (q := 4) dX12_end_1 (by decide) rfl (fun c1 => ?_) (fun c1 => ?_)
  · refine ax_iconst (q := 13) dX12_end_12 rfl ki_0 ?_
    exact ax_iret dX12_end_13 rfl rfl (k1 c1)
  · refine ax_iload_n (q := 5) (i := 1) dX12_end_4 rfl rfl rfl ?_
    refine ax_aload_n (q := 6) (i := 0) dX12_end_5 rfl rfl rfl ?_
    refine ax_get (q := 9) (k := 0) (j := 2) (v := ax_i (σ.1 0 2)) dX12_end_6 rfl shM_0 rfl rfl rfl (by decide) fl_X12_115 ?_
    refine ax_icmp_le (tgt := 14) (q := 12) dX12_end_9 (by decide) rfl (fun c2 => ?_) (fun c2 => ?_)
    · refine ax_aload_n (q := 15) (i := 0) dX12_end_14 rfl rfl rfl ?_
      refine ax_iload_n (q := 16) (i := 1) dX12_end_15 rfl rfl rfl ?_
      refine ax_puti (q := 19) (k := 0) (j := 2) dX12_end_16 rfl shM_0 rfl rfl (by decide) fl_X12_115 rfl rfl rfl rfl ?_
      refine ax_iconst (q := 20) dX12_end_19 rfl ki_1 ?_
      exact ax_iret dX12_end_20 rfl rfl (k2 c1 c2)
    · refine ax_iconst (q := 13) dX12_end_12 rfl ki_0 ?_
      exact ax_iret dX12_end_13 rfl rfl (k3 c1 c2)
set_option maxRecDepth 20000 in
theorem f_X12_here (σ : ax_S)  (h1 : (¬ ((σ.1 0 2) ≤ (σ.1 0 3))) → vp_in (σ.1 0 3) 240) {d : Nat} (hd : 1 ≤ d) : ax_Ct shM d mX12_here [ax_r 0] (fun r u => r = some (ax_i (if ((σ.1 0 2) ≤ (σ.1 0 3)) then (-1 : Int32) else (σ.1 1 (Int32.toNatClampNeg (σ.1 0 3))))) ∧ u = σ) σ := by
  obtain ⟨d, rfl⟩ : ∃ e, d = e + 1 := ⟨d - 1, by omega⟩
  refine ax_Ct.of (lv := [some (ax_r 0)]) (by decide +kernel) (fun ad => Nat.le_of_ble_eq_true rfl) (fun ad => rfl) ?_
  refine ax_aload_n (q := 1) (i := 0) dX12_here_0 rfl rfl rfl ?_
  refine ax_get (q := 4) (k := 0) (j := 3) (v := ax_i (σ.1 0 3)) dX12_here_1 rfl shM_0 rfl rfl rfl (by decide) fl_X12_118 ?_
  refine ax_aload_n (q := 5) (i := 0) dX12_here_4 rfl rfl rfl ?_
  refine ax_get (q := 8) (k := 0) (j := 2) (v := ax_i (σ.1 0 2)) dX12_here_5 rfl shM_0 rfl rfl rfl (by decide) fl_X12_115 ?_
  have K2 : ax_W shM (d + 1) mX12_here (fun r u => r = some (ax_i (if ((σ.1 0 2) ≤ (σ.1 0 3)) then (-1 : Int32) else (σ.1 1 (Int32.toNatClampNeg (σ.1 0 3))))) ∧ u = σ) 24 [some (ax_r 0)] [ax_i (if ((σ.1 0 2) ≤ (σ.1 0 3)) then (-1 : Int32) else (σ.1 1 (Int32.toNatClampNeg (σ.1 0 3))))] σ := by
    exact ax_iret dX12_here_24 rfl rfl ⟨rfl, rfl⟩
  refine ax_icmp_ge (tgt := 23) (q := 11) dX12_here_8 (by decide) rfl (fun c1 => ?_) (fun c1 => ?_)
  · refine ax_iconst (q := 24) dX12_here_23 rfl ki_m1 ?_
    exact ax_cv (if_pos c1) K2
  · refine ax_aload_n (q := 12) (i := 0) dX12_here_11 rfl rfl rfl ?_
    refine ax_get (q := 15) (k := 0) (j := 1) (v := ax_r 1) dX12_here_12 rfl shM_0 rfl rfl rfl (by decide) fl_X12_9 ?_
    refine ax_aload_n (q := 16) (i := 0) dX12_here_15 rfl rfl rfl ?_
    refine ax_get (q := 19) (k := 0) (j := 3) (v := ax_i (σ.1 0 3)) dX12_here_16 rfl shM_0 rfl rfl rfl (by decide) fl_X12_118 ?_
    refine ax_iald (q := 20) (a := (Int32.toNatClampNeg (σ.1 0 3))) (v := (σ.1 1 (Int32.toNatClampNeg (σ.1 0 3)))) dX12_here_19 rfl shM_1 (h1 c1) rfl rfl ?_
    refine ax_goto (tgt := 24) dX12_here_20 (by decide) ?_
    exact ax_cv (if_neg c1) K2
set_option maxRecDepth 20000 in
theorem s_X12_look_0 {d : Nat} (hd : 1 ≤ d) {Q : Option ax_V → ax_S → Prop} (σ : ax_S)  (h1 : (¬ ((σ.1 0 2) ≤ (σ.1 0 3))) → vp_in (σ.1 0 3) 240) (h2 : (¬ (if ((σ.1 0 2) ≤ (σ.1 0 3)) then (-1 : Int32) else (σ.1 1 (Int32.toNatClampNeg (σ.1 0 3)))) = (32 : Int32)) → (¬ ((σ.1 0 2) ≤ (σ.1 0 3))) → vp_in (σ.1 0 3) 240) (k3 : (¬ (if ((σ.1 0 2) ≤ (σ.1 0 3)) then (-1 : Int32) else (σ.1 1 (Int32.toNatClampNeg (σ.1 0 3)))) = (32 : Int32)) → Q (some (ax_i (if ((σ.1 0 2) ≤ (σ.1 0 3)) then (-1 : Int32) else (σ.1 1 (Int32.toNatClampNeg (σ.1 0 3)))))) σ) (k4 : (¬ (¬ (if ((σ.1 0 2) ≤ (σ.1 0 3)) then (-1 : Int32) else (σ.1 1 (Int32.toNatClampNeg (σ.1 0 3)))) = (32 : Int32))) → ax_W shM (d + 1) mX12_look Q 0 [some (ax_r 0)] [] (ax_ui σ 0 3 ((σ.1 0 3) + (1 : Int32)))) : ax_W shM (d + 1) mX12_look Q 0 [some (ax_r 0)] [] σ := by
  refine ax_aload_n (q := 1) (i := 0) dX12_look_0 rfl rfl rfl ?_
  refine ax_callVfi (q := 4) (As := []) (st := []) (x := (if ((σ.1 0 2) ≤ (σ.1 0 3)) then (-1 : Int32) else (σ.1 1 (Int32.toNatClampNeg (σ.1 0 3))))) (σ2 := σ) dX12_look_1 rfl lk_X12_121 shM_0 rfl rfl rfl rfl (Nat.le_of_ble_eq_true rfl) (f_X12_here σ  h1 (d := d) (by omega)) ?_
  refine ax_bipush (q := 6) dX12_look_4 rfl kb_32 ?_
  refine ax_icmp_ne (tgt := 22) (q := 9) dX12_look_6 (by decide) rfl (fun c1 => ?_) (fun c1 => ?_)
  · refine ax_aload_n (q := 23) (i := 0) dX12_look_22 rfl rfl rfl ?_
    refine ax_callVfi (q := 26) (As := []) (st := []) (x := (if ((σ.1 0 2) ≤ (σ.1 0 3)) then (-1 : Int32) else (σ.1 1 (Int32.toNatClampNeg (σ.1 0 3))))) (σ2 := σ) dX12_look_23 rfl lk_X12_121 shM_0 rfl rfl rfl rfl (Nat.le_of_ble_eq_true rfl) (f_X12_here σ  (h2 c1) (d := d) (by omega)) ?_
    exact ax_iret dX12_look_26 rfl rfl (k3 c1)
  · refine ax_aload_n (q := 10) (i := 0) dX12_look_9 rfl rfl rfl ?_
    refine ax_dupr (q := 11) dX12_look_10 rfl ?_
    refine ax_get (q := 14) (k := 0) (j := 3) (v := ax_i (σ.1 0 3)) dX12_look_11 rfl shM_0 rfl rfl rfl (by decide) fl_X12_118 ?_
    refine ax_iconst (q := 15) dX12_look_14 rfl ki_1 ?_
    refine ax_iadd (q := 16) dX12_look_15 rfl ?_
    refine ax_puti (q := 19) (k := 0) (j := 3) dX12_look_16 rfl shM_0 rfl rfl (by decide) fl_X12_118 rfl rfl rfl rfl ?_
    refine ax_goto (tgt := 0) dX12_look_19 (by decide) ?_
    exact (k4 c1)
set_option maxRecDepth 20000 in
theorem f_X12_bad (σ : ax_S)   {d : Nat} (hd : 1 ≤ d) : ax_Ct shM d mX12_bad [ax_r 0] (fun r u => r = none ∧ u = (ax_ui σ 0 4 (if (¬ (σ.1 0 4) = (-1 : Int32)) then (σ.1 0 4) else (σ.1 0 3)))) σ := by
  obtain ⟨d, rfl⟩ : ∃ e, d = e + 1 := ⟨d - 1, by omega⟩
  refine ax_Ct.of (lv := [some (ax_r 0)]) (by decide +kernel) (fun ad => Nat.le_of_ble_eq_true rfl) (fun ad => rfl) ?_
  refine ax_aload_n (q := 1) (i := 0) dX12_bad_0 rfl rfl rfl ?_
  refine ax_aload_n (q := 2) (i := 0) dX12_bad_1 rfl rfl rfl ?_
  refine ax_get (q := 5) (k := 0) (j := 4) (v := ax_i (σ.1 0 4)) dX12_bad_2 rfl shM_0 rfl rfl rfl (by decide) fl_X12_125 ?_
  refine ax_iconst (q := 6) dX12_bad_5 rfl ki_m1 ?_
  have K2 : ax_W shM (d + 1) mX12_bad (fun r u => r = none ∧ u = (ax_ui σ 0 4 (if (¬ (σ.1 0 4) = (-1 : Int32)) then (σ.1 0 4) else (σ.1 0 3)))) 20 [some (ax_r 0)] [ax_i (if (¬ (σ.1 0 4) = (-1 : Int32)) then (σ.1 0 4) else (σ.1 0 3)), ax_r 0] σ := by
    refine ax_puti (q := 23) (k := 0) (j := 4) dX12_bad_20 rfl shM_0 rfl rfl (by decide) fl_X12_125 rfl rfl rfl rfl ?_
    exact ax_vret dX12_bad_23 rfl ⟨rfl, rfl⟩
  refine ax_icmp_ne (tgt := 16) (q := 9) dX12_bad_6 (by decide) rfl (fun c1 => ?_) (fun c1 => ?_)
  · refine ax_aload_n (q := 17) (i := 0) dX12_bad_16 rfl rfl rfl ?_
    refine ax_get (q := 20) (k := 0) (j := 4) (v := ax_i (σ.1 0 4)) dX12_bad_17 rfl shM_0 rfl rfl rfl (by decide) fl_X12_125 ?_
    exact ax_cv (if_pos c1) K2
  · refine ax_aload_n (q := 10) (i := 0) dX12_bad_9 rfl rfl rfl ?_
    refine ax_get (q := 13) (k := 0) (j := 3) (v := ax_i (σ.1 0 3)) dX12_bad_10 rfl shM_0 rfl rfl rfl (by decide) fl_X12_118 ?_
    refine ax_goto (tgt := 20) dX12_bad_13 (by decide) ?_
    exact ax_cv (if_neg c1) K2
set_option maxRecDepth 20000 in
theorem f_X12_isDigit {sh : List ax_H} (σ : ax_S) (a0 : Int32)  {d : Nat} (hd : 1 ≤ d) : ax_Ct sh d mX12_isDigit [ax_i a0] (fun r u => r = some (ax_i (if ((¬ (a0 < (48 : Int32))) ∧ (¬ ((57 : Int32) < a0))) then (1 : Int32) else 0)) ∧ u = σ) σ := by
  obtain ⟨d, rfl⟩ : ∃ e, d = e + 1 := ⟨d - 1, by omega⟩
  refine ax_Ct.of (lv := [some (ax_i a0)]) (by decide +kernel) (fun ad => Nat.le_of_ble_eq_true rfl) (fun ad => rfl) ?_
  refine ax_iload_n (q := 1) (i := 0) dX12_isDigit_0 rfl rfl rfl ?_
  refine ax_bipush (q := 3) dX12_isDigit_1 rfl kb_48 ?_
  have K3 : ax_W sh (d + 1) mX12_isDigit (fun r u => r = some (ax_i (if ((¬ (a0 < (48 : Int32))) ∧ (¬ ((57 : Int32) < a0))) then (1 : Int32) else 0)) ∧ u = σ) 17 [some (ax_i a0)] [ax_i (if ((¬ (a0 < (48 : Int32))) ∧ (¬ ((57 : Int32) < a0))) then (1 : Int32) else 0)] σ := by
    exact ax_iret dX12_isDigit_17 rfl (ax_nb _) ⟨rfl, rfl⟩
  refine ax_icmp_lt (tgt := 16) (q := 6) dX12_isDigit_3 (by decide) rfl (fun c1 => ?_) (fun c1 => ?_)
  · refine ax_iconst (q := 17) dX12_isDigit_16 rfl ki_0 ?_
    exact ax_cv (if_neg (fun z => (fun y => y c1) z.1)) K3
  · refine ax_iload_n (q := 7) (i := 0) dX12_isDigit_6 rfl rfl rfl ?_
    refine ax_bipush (q := 9) dX12_isDigit_7 rfl kb_57 ?_
    refine ax_icmp_gt (tgt := 16) (q := 12) dX12_isDigit_9 (by decide) rfl (fun c2 => ?_) (fun c2 => ?_)
    · refine ax_iconst (q := 17) dX12_isDigit_16 rfl ki_0 ?_
      exact ax_cv (if_neg (fun z => (fun y => y c2) z.2)) K3
    · refine ax_iconst (q := 13) dX12_isDigit_12 rfl ki_1 ?_
      refine ax_goto (tgt := 17) dX12_isDigit_13 (by decide) ?_
      exact ax_cv (if_pos ⟨c1, c2⟩) K3
set_option maxRecDepth 20000 in
theorem f_X12_put (σ : ax_S) (a0 : Int32) (a1 : Int32) (h1 : vp_in (σ.1 0 14) 5) (h2 : vp_in (((520 : Int32) * (σ.1 0 14)) + (σ.1 4 (Int32.toNatClampNeg (σ.1 0 14)))) 2600) {d : Nat} (hd : 1 ≤ d) : ax_Ct shM d mX12_put [ax_r 0, ax_i a0, ax_i a1] (fun r u => r = none ∧ u = (ax_ui (ax_ui (ax_ui σ 2 (Int32.toNatClampNeg (((520 : Int32) * (σ.1 0 14)) + (σ.1 4 (Int32.toNatClampNeg (σ.1 0 14))))) a0) 3 (Int32.toNatClampNeg (((520 : Int32) * (σ.1 0 14)) + (σ.1 4 (Int32.toNatClampNeg (σ.1 0 14))))) a1) 4 (Int32.toNatClampNeg (σ.1 0 14)) ((σ.1 4 (Int32.toNatClampNeg (σ.1 0 14))) + (1 : Int32)))) σ := by
  obtain ⟨d, rfl⟩ : ∃ e, d = e + 1 := ⟨d - 1, by omega⟩
  refine ax_Ct.of (lv := [some (ax_r 0), some (ax_i a0), some (ax_i a1)]) (by decide +kernel) (fun ad => Nat.le_of_ble_eq_true rfl) (fun ad => rfl) ?_
  refine ax_aload_n (q := 1) (i := 0) dX12_put_0 rfl rfl rfl ?_
  refine ax_get (q := 4) (k := 0) (j := 6) (v := ax_r 2) dX12_put_1 rfl shM_0 rfl rfl rfl (by decide) fl_X12_13 ?_
  refine ax_sipush (q := 7) dX12_put_4 rfl ks_520 ?_
  refine ax_aload_n (q := 8) (i := 0) dX12_put_7 rfl rfl rfl ?_
  refine ax_get (q := 11) (k := 0) (j := 14) (v := ax_i (σ.1 0 14)) dX12_put_8 rfl shM_0 rfl rfl rfl (by decide) fl_X12_128 ?_
  refine ax_imul (q := 12) dX12_put_11 rfl ?_
  refine ax_aload_n (q := 13) (i := 0) dX12_put_12 rfl rfl rfl ?_
  refine ax_get (q := 16) (k := 0) (j := 8) (v := ax_r 4) dX12_put_13 rfl shM_0 rfl rfl rfl (by decide) fl_X12_19 ?_
  refine ax_aload_n (q := 17) (i := 0) dX12_put_16 rfl rfl rfl ?_
  refine ax_get (q := 20) (k := 0) (j := 14) (v := ax_i (σ.1 0 14)) dX12_put_17 rfl shM_0 rfl rfl rfl (by decide) fl_X12_128 ?_
  refine ax_iald (q := 21) (a := (Int32.toNatClampNeg (σ.1 0 14))) (v := (σ.1 4 (Int32.toNatClampNeg (σ.1 0 14)))) dX12_put_20 rfl shM_4 h1 rfl rfl ?_
  refine ax_iadd (q := 22) dX12_put_21 rfl ?_
  refine ax_iload_n (q := 23) (i := 1) dX12_put_22 rfl rfl rfl ?_
  refine ax_iast (q := 24) (a := (Int32.toNatClampNeg (((520 : Int32) * (σ.1 0 14)) + (σ.1 4 (Int32.toNatClampNeg (σ.1 0 14)))))) dX12_put_23 rfl shM_2 h2 rfl ?_
  refine ax_aload_n (q := 25) (i := 0) dX12_put_24 rfl rfl rfl ?_
  refine ax_get (q := 28) (k := 0) (j := 7) (v := ax_r 3) dX12_put_25 rfl shM_0 rfl rfl rfl (by decide) fl_X12_16 ?_
  refine ax_sipush (q := 31) dX12_put_28 rfl ks_520 ?_
  refine ax_aload_n (q := 32) (i := 0) dX12_put_31 rfl rfl rfl ?_
  refine ax_get (q := 35) (k := 0) (j := 14) (v := ax_i (σ.1 0 14)) dX12_put_32 rfl shM_0 rfl rfl rfl (by decide) fl_X12_128 ?_
  refine ax_imul (q := 36) dX12_put_35 rfl ?_
  refine ax_aload_n (q := 37) (i := 0) dX12_put_36 rfl rfl rfl ?_
  refine ax_get (q := 40) (k := 0) (j := 8) (v := ax_r 4) dX12_put_37 rfl shM_0 rfl rfl rfl (by decide) fl_X12_19 ?_
  refine ax_aload_n (q := 41) (i := 0) dX12_put_40 rfl rfl rfl ?_
  refine ax_get (q := 44) (k := 0) (j := 14) (v := ax_i (σ.1 0 14)) dX12_put_41 rfl shM_0 rfl rfl rfl (by decide) fl_X12_128 ?_
  refine ax_iald (q := 45) (a := (Int32.toNatClampNeg (σ.1 0 14))) (v := (σ.1 4 (Int32.toNatClampNeg (σ.1 0 14)))) dX12_put_44 rfl shM_4 h1 rfl rfl ?_
  refine ax_iadd (q := 46) dX12_put_45 rfl ?_
  refine ax_iload_n (q := 47) (i := 2) dX12_put_46 rfl rfl rfl ?_
  refine ax_iast (q := 48) (a := (Int32.toNatClampNeg (((520 : Int32) * (σ.1 0 14)) + (σ.1 4 (Int32.toNatClampNeg (σ.1 0 14)))))) dX12_put_47 rfl shM_3 h2 rfl ?_
  refine ax_aload_n (q := 49) (i := 0) dX12_put_48 rfl rfl rfl ?_
  refine ax_get (q := 52) (k := 0) (j := 8) (v := ax_r 4) dX12_put_49 rfl shM_0 rfl rfl rfl (by decide) fl_X12_19 ?_
  refine ax_aload_n (q := 53) (i := 0) dX12_put_52 rfl rfl rfl ?_
  refine ax_get (q := 56) (k := 0) (j := 14) (v := ax_i (σ.1 0 14)) dX12_put_53 rfl shM_0 rfl rfl rfl (by decide) fl_X12_128 ?_
  refine ax_dup2_11 (q := 57) dX12_put_56 rfl ?_
  refine ax_iald (q := 58) (a := (Int32.toNatClampNeg (σ.1 0 14))) (v := (σ.1 4 (Int32.toNatClampNeg (σ.1 0 14)))) dX12_put_57 rfl shM_4 h1 rfl rfl ?_
  refine ax_iconst (q := 59) dX12_put_58 rfl ki_1 ?_
  refine ax_iadd (q := 60) dX12_put_59 rfl ?_
  refine ax_iast (q := 61) (a := (Int32.toNatClampNeg (σ.1 0 14))) dX12_put_60 rfl shM_4 h1 rfl ?_
  exact ax_vret dX12_put_61 rfl ⟨rfl, rfl⟩
def v_X12_letterOf (a0 : Int32) : Int32 := (if (¬ a0 = (112 : Int32)) then (if (¬ a0 = (116 : Int32)) then (if (¬ a0 = (108 : Int32)) then (if (¬ a0 = (107 : Int32)) then (if (¬ a0 = (110 : Int32)) then (if (¬ a0 = (100 : Int32)) then (-1 : Int32) else (5 : Int32)) else (4 : Int32)) else (3 : Int32)) else (2 : Int32)) else (1 : Int32)) else (0 : Int32))
set_option maxRecDepth 20000 in
theorem f_X12_letterOf {sh : List ax_H} (σ : ax_S) (a0 : Int32)  {d : Nat} (hd : 1 ≤ d) : ax_Ct sh d mX12_letterOf [ax_i a0] (fun r u => r = some (ax_i (v_X12_letterOf a0)) ∧ u = σ) σ := by
  obtain ⟨d, rfl⟩ : ∃ e, d = e + 1 := ⟨d - 1, by omega⟩
  refine ax_Ct.of (lv := [some (ax_i a0)]) (by decide +kernel) (fun ad => Nat.le_of_ble_eq_true rfl) (fun ad => rfl) ?_
  refine ax_iload_n (q := 1) (i := 0) dX12_letterOf_0 rfl rfl rfl ?_
  refine ax_bipush (q := 3) dX12_letterOf_1 rfl kb_112 ?_
  have K7 : ax_W sh (d + 1) mX12_letterOf (fun r u => r = some (ax_i (v_X12_letterOf a0)) ∧ u = σ) 61 [some (ax_i a0)] [ax_i (if (¬ a0 = (112 : Int32)) then (if (¬ a0 = (116 : Int32)) then (if (¬ a0 = (108 : Int32)) then (if (¬ a0 = (107 : Int32)) then (if (¬ a0 = (110 : Int32)) then (if (¬ a0 = (100 : Int32)) then (-1 : Int32) else (5 : Int32)) else (4 : Int32)) else (3 : Int32)) else (2 : Int32)) else (1 : Int32)) else (0 : Int32))] σ := by
    exact ax_iret dX12_letterOf_61 rfl rfl ⟨rfl, rfl⟩
  refine ax_icmp_ne (tgt := 10) (q := 6) dX12_letterOf_3 (by decide) rfl (fun c1 => ?_) (fun c1 => ?_)
  · refine ax_iload_n (q := 11) (i := 0) dX12_letterOf_10 rfl rfl rfl ?_
    refine ax_bipush (q := 13) dX12_letterOf_11 rfl kb_116 ?_
    refine ax_icmp_ne (tgt := 20) (q := 16) dX12_letterOf_13 (by decide) rfl (fun c2 => ?_) (fun c2 => ?_)
    · refine ax_iload_n (q := 21) (i := 0) dX12_letterOf_20 rfl rfl rfl ?_
      refine ax_bipush (q := 23) dX12_letterOf_21 rfl kb_108 ?_
      refine ax_icmp_ne (tgt := 30) (q := 26) dX12_letterOf_23 (by decide) rfl (fun c3 => ?_) (fun c3 => ?_)
      · refine ax_iload_n (q := 31) (i := 0) dX12_letterOf_30 rfl rfl rfl ?_
        refine ax_bipush (q := 33) dX12_letterOf_31 rfl kb_107 ?_
        refine ax_icmp_ne (tgt := 40) (q := 36) dX12_letterOf_33 (by decide) rfl (fun c4 => ?_) (fun c4 => ?_)
        · refine ax_iload_n (q := 41) (i := 0) dX12_letterOf_40 rfl rfl rfl ?_
          refine ax_bipush (q := 43) dX12_letterOf_41 rfl kb_110 ?_
          refine ax_icmp_ne (tgt := 50) (q := 46) dX12_letterOf_43 (by decide) rfl (fun c5 => ?_) (fun c5 => ?_)
          · refine ax_iload_n (q := 51) (i := 0) dX12_letterOf_50 rfl rfl rfl ?_
            refine ax_bipush (q := 53) dX12_letterOf_51 rfl kb_100 ?_
            refine ax_icmp_ne (tgt := 60) (q := 56) dX12_letterOf_53 (by decide) rfl (fun c6 => ?_) (fun c6 => ?_)
            · refine ax_iconst (q := 61) dX12_letterOf_60 rfl ki_m1 ?_
              exact ax_cv ((if_pos c1).trans ((if_pos c2).trans ((if_pos c3).trans ((if_pos c4).trans ((if_pos c5).trans (if_pos c6)))))) K7
            · refine ax_iconst (q := 57) dX12_letterOf_56 rfl ki_5 ?_
              refine ax_goto (tgt := 61) dX12_letterOf_57 (by decide) ?_
              exact ax_cv ((if_pos c1).trans ((if_pos c2).trans ((if_pos c3).trans ((if_pos c4).trans ((if_pos c5).trans (if_neg c6)))))) K7
          · refine ax_iconst (q := 47) dX12_letterOf_46 rfl ki_4 ?_
            refine ax_goto (tgt := 61) dX12_letterOf_47 (by decide) ?_
            exact ax_cv ((if_pos c1).trans ((if_pos c2).trans ((if_pos c3).trans ((if_pos c4).trans (if_neg c5))))) K7
        · refine ax_iconst (q := 37) dX12_letterOf_36 rfl ki_3 ?_
          refine ax_goto (tgt := 61) dX12_letterOf_37 (by decide) ?_
          exact ax_cv ((if_pos c1).trans ((if_pos c2).trans ((if_pos c3).trans (if_neg c4)))) K7
      · refine ax_iconst (q := 27) dX12_letterOf_26 rfl ki_2 ?_
        refine ax_goto (tgt := 61) dX12_letterOf_27 (by decide) ?_
        exact ax_cv ((if_pos c1).trans ((if_pos c2).trans (if_neg c3))) K7
    · refine ax_iconst (q := 17) dX12_letterOf_16 rfl ki_1 ?_
      refine ax_goto (tgt := 61) dX12_letterOf_17 (by decide) ?_
      exact ax_cv ((if_pos c1).trans (if_neg c2)) K7
  · refine ax_iconst (q := 7) dX12_letterOf_6 rfl ki_0 ?_
    refine ax_goto (tgt := 61) dX12_letterOf_7 (by decide) ?_
    exact ax_cv (if_neg c1) K7
set_option maxRecDepth 20000 in
theorem s_X12_opens_0 {d : Nat} (hd : 1 ≤ d) {Q : Option ax_V → ax_S → Prop} (σ : ax_S)  (k1 : (¬ (σ.1 0 5) = (6 : Int32)) → Q none (ax_ui (ax_ui σ 0 5 ((σ.1 0 5) + (1 : Int32))) 0 3 ((σ.1 0 3) + (1 : Int32)))) (k2 : (¬ (¬ (σ.1 0 5) = (6 : Int32))) → Q none (ax_ui (ax_ui (ax_ui σ 0 4 (if (¬ (σ.1 0 4) = (-1 : Int32)) then (σ.1 0 4) else (σ.1 0 3))) 0 5 ((σ.1 0 5) + (1 : Int32))) 0 3 ((σ.1 0 3) + (1 : Int32)))) : ax_W shM (d + 1) mX12_opens Q 0 [some (ax_r 0)] [] σ := by
  refine ax_aload_n (q := 1) (i := 0) dX12_opens_0 rfl rfl rfl ?_
  refine ax_get (q := 4) (k := 0) (j := 5) (v := ax_i (σ.1 0 5)) dX12_opens_1 rfl shM_0 rfl rfl rfl (by decide) fl_X12_131 ?_
  refine ax_bipush (q := 6) dX12_opens_4 rfl kb_6 ?_
  refine ax_icmp_ne (tgt := 13) (q := 9) dX12_opens_6 (by decide) rfl (fun c1 => ?_) (fun c1 => ?_)
  · refine ax_aload_n (q := 14) (i := 0) dX12_opens_13 rfl rfl rfl ?_
    refine ax_dupr (q := 15) dX12_opens_14 rfl ?_
    refine ax_get (q := 18) (k := 0) (j := 5) (v := ax_i (σ.1 0 5)) dX12_opens_15 rfl shM_0 rfl rfl rfl (by decide) fl_X12_131 ?_
    refine ax_iconst (q := 19) dX12_opens_18 rfl ki_1 ?_
    refine ax_iadd (q := 20) dX12_opens_19 rfl ?_
    refine ax_puti (q := 23) (k := 0) (j := 5) dX12_opens_20 rfl shM_0 rfl rfl (by decide) fl_X12_131 rfl rfl rfl rfl ?_
    refine ax_aload_n (q := 24) (i := 0) dX12_opens_23 rfl rfl rfl ?_
    refine ax_dupr (q := 25) dX12_opens_24 rfl ?_
    refine ax_get (q := 28) (k := 0) (j := 3) (v := ax_i (σ.1 0 3)) dX12_opens_25 rfl shM_0 rfl rfl rfl (by decide) fl_X12_118 ?_
    refine ax_iconst (q := 29) dX12_opens_28 rfl ki_1 ?_
    refine ax_iadd (q := 30) dX12_opens_29 rfl ?_
    refine ax_puti (q := 33) (k := 0) (j := 3) dX12_opens_30 rfl shM_0 rfl rfl (by decide) fl_X12_118 rfl rfl rfl rfl ?_
    exact ax_vret dX12_opens_33 rfl (k1 c1)
  · refine ax_aload_n (q := 10) (i := 0) dX12_opens_9 rfl rfl rfl ?_
    refine ax_callVfv (q := 13) (As := []) (st := []) (σ2 := (ax_ui σ 0 4 (if (¬ (σ.1 0 4) = (-1 : Int32)) then (σ.1 0 4) else (σ.1 0 3)))) dX12_opens_10 rfl lk_X12_134 shM_0 rfl rfl rfl rfl (Nat.le_of_ble_eq_true rfl) (f_X12_bad σ   (d := d) (by omega)) ?_
    refine ax_aload_n (q := 14) (i := 0) dX12_opens_13 rfl rfl rfl ?_
    refine ax_dupr (q := 15) dX12_opens_14 rfl ?_
    refine ax_get (q := 18) (k := 0) (j := 5) (v := ax_i (σ.1 0 5)) dX12_opens_15 rfl shM_0 rfl rfl rfl (by decide) fl_X12_131 ?_
    refine ax_iconst (q := 19) dX12_opens_18 rfl ki_1 ?_
    refine ax_iadd (q := 20) dX12_opens_19 rfl ?_
    refine ax_puti (q := 23) (k := 0) (j := 5) dX12_opens_20 rfl shM_0 rfl rfl (by decide) fl_X12_131 rfl rfl rfl rfl ?_
    refine ax_aload_n (q := 24) (i := 0) dX12_opens_23 rfl rfl rfl ?_
    refine ax_dupr (q := 25) dX12_opens_24 rfl ?_
    refine ax_get (q := 28) (k := 0) (j := 3) (v := ax_i (σ.1 0 3)) dX12_opens_25 rfl shM_0 rfl rfl rfl (by decide) fl_X12_118 ?_
    refine ax_iconst (q := 29) dX12_opens_28 rfl ki_1 ?_
    refine ax_iadd (q := 30) dX12_opens_29 rfl ?_
    refine ax_puti (q := 33) (k := 0) (j := 3) dX12_opens_30 rfl shM_0 rfl rfl (by decide) fl_X12_118 rfl rfl rfl rfl ?_
    exact ax_vret dX12_opens_33 rfl (k2 c1)
set_option maxRecDepth 20000 in
theorem s_X12_closes_0 {d : Nat} (hd : 0 ≤ d) {Q : Option ax_V → ax_S → Prop} (σ : ax_S) (a0 : Int32) (k1 : (¬ (σ.1 0 4) = (-1 : Int32)) → Q none (ax_ui (ax_ui σ 0 3 ((σ.1 0 3) + (1 : Int32))) 0 5 ((σ.1 0 5) - (1 : Int32)))) (k2 : (¬ (¬ (σ.1 0 4) = (-1 : Int32))) → ax_Ct shM d mX12_look [ax_r 0] (fun r u => ∃ x : Int32, r = some (ax_i x) ∧ ax_W shM (d + 1) mX12_closes Q 12 [some (ax_r 0), some (ax_i a0)] (ax_i x :: []) u) σ) : ax_W shM (d + 1) mX12_closes Q 0 [some (ax_r 0), some (ax_i a0)] [] σ := by
  refine ax_aload_n (q := 1) (i := 0) dX12_closes_0 rfl rfl rfl ?_
  refine ax_get (q := 4) (k := 0) (j := 4) (v := ax_i (σ.1 0 4)) dX12_closes_1 rfl shM_0 rfl rfl rfl (by decide) fl_X12_125 ?_
  refine ax_iconst (q := 5) dX12_closes_4 rfl ki_m1 ?_
  refine ax_icmp_ne (tgt := 20) (q := 8) dX12_closes_5 (by decide) rfl (fun c1 => ?_) (fun c1 => ?_)
  · refine ax_aload_n (q := 21) (i := 0) dX12_closes_20 rfl rfl rfl ?_
    refine ax_dupr (q := 22) dX12_closes_21 rfl ?_
    refine ax_get (q := 25) (k := 0) (j := 3) (v := ax_i (σ.1 0 3)) dX12_closes_22 rfl shM_0 rfl rfl rfl (by decide) fl_X12_118 ?_
    refine ax_iconst (q := 26) dX12_closes_25 rfl ki_1 ?_
    refine ax_iadd (q := 27) dX12_closes_26 rfl ?_
    refine ax_puti (q := 30) (k := 0) (j := 3) dX12_closes_27 rfl shM_0 rfl rfl (by decide) fl_X12_118 rfl rfl rfl rfl ?_
    refine ax_aload_n (q := 31) (i := 0) dX12_closes_30 rfl rfl rfl ?_
    refine ax_dupr (q := 32) dX12_closes_31 rfl ?_
    refine ax_get (q := 35) (k := 0) (j := 5) (v := ax_i (σ.1 0 5)) dX12_closes_32 rfl shM_0 rfl rfl rfl (by decide) fl_X12_131 ?_
    refine ax_iconst (q := 36) dX12_closes_35 rfl ki_1 ?_
    refine ax_isub (q := 37) dX12_closes_36 rfl ?_
    refine ax_puti (q := 40) (k := 0) (j := 5) dX12_closes_37 rfl shM_0 rfl rfl (by decide) fl_X12_131 rfl rfl rfl rfl ?_
    exact ax_vret dX12_closes_40 rfl (k1 c1)
  · refine ax_aload_n (q := 9) (i := 0) dX12_closes_8 rfl rfl rfl ?_
    exact ax_callVci (q := 12) (As := []) (st := []) dX12_closes_9 rfl lk_X12_137 shM_0 rfl rfl rfl rfl (Nat.le_of_ble_eq_true rfl) (k2 c1)
set_option maxRecDepth 20000 in
theorem s_X12_closes_12 {d : Nat} (hd : 1 ≤ d) {Q : Option ax_V → ax_S → Prop} (σ : ax_S) (x1 : Int32) (rr : Int32) (k1 : (rr = x1) → Q none (ax_ui (ax_ui σ 0 3 ((σ.1 0 3) + (1 : Int32))) 0 5 ((σ.1 0 5) - (1 : Int32)))) (k2 : (¬ (rr = x1)) → Q none (ax_ui (ax_ui (ax_ui σ 0 4 (if (¬ (σ.1 0 4) = (-1 : Int32)) then (σ.1 0 4) else (σ.1 0 3))) 0 3 ((σ.1 0 3) + (1 : Int32))) 0 5 ((σ.1 0 5) - (1 : Int32)))) : ax_W shM (d + 1) mX12_closes Q 12 [some (ax_r 0), some (ax_i x1)] [ax_i rr] σ := by
  refine ax_iload_n (q := 13) (i := 1) dX12_closes_12 rfl rfl rfl ?_
  refine ax_icmp_eq (tgt := 20) (q := 16) dX12_closes_13 (by decide) rfl (fun c1 => ?_) (fun c1 => ?_)
  · refine ax_aload_n (q := 21) (i := 0) dX12_closes_20 rfl rfl rfl ?_
    refine ax_dupr (q := 22) dX12_closes_21 rfl ?_
    refine ax_get (q := 25) (k := 0) (j := 3) (v := ax_i (σ.1 0 3)) dX12_closes_22 rfl shM_0 rfl rfl rfl (by decide) fl_X12_118 ?_
    refine ax_iconst (q := 26) dX12_closes_25 rfl ki_1 ?_
    refine ax_iadd (q := 27) dX12_closes_26 rfl ?_
    refine ax_puti (q := 30) (k := 0) (j := 3) dX12_closes_27 rfl shM_0 rfl rfl (by decide) fl_X12_118 rfl rfl rfl rfl ?_
    refine ax_aload_n (q := 31) (i := 0) dX12_closes_30 rfl rfl rfl ?_
    refine ax_dupr (q := 32) dX12_closes_31 rfl ?_
    refine ax_get (q := 35) (k := 0) (j := 5) (v := ax_i (σ.1 0 5)) dX12_closes_32 rfl shM_0 rfl rfl rfl (by decide) fl_X12_131 ?_
    refine ax_iconst (q := 36) dX12_closes_35 rfl ki_1 ?_
    refine ax_isub (q := 37) dX12_closes_36 rfl ?_
    refine ax_puti (q := 40) (k := 0) (j := 5) dX12_closes_37 rfl shM_0 rfl rfl (by decide) fl_X12_131 rfl rfl rfl rfl ?_
    exact ax_vret dX12_closes_40 rfl (k1 c1)
  · refine ax_aload_n (q := 17) (i := 0) dX12_closes_16 rfl rfl rfl ?_
    refine ax_callVfv (q := 20) (As := []) (st := []) (σ2 := (ax_ui σ 0 4 (if (¬ (σ.1 0 4) = (-1 : Int32)) then (σ.1 0 4) else (σ.1 0 3)))) dX12_closes_17 rfl lk_X12_134 shM_0 rfl rfl rfl rfl (Nat.le_of_ble_eq_true rfl) (f_X12_bad σ   (d := d) (by omega)) ?_
    refine ax_aload_n (q := 21) (i := 0) dX12_closes_20 rfl rfl rfl ?_
    refine ax_dupr (q := 22) dX12_closes_21 rfl ?_
    refine ax_get (q := 25) (k := 0) (j := 3) (v := ax_i (σ.1 0 3)) dX12_closes_22 rfl shM_0 rfl rfl rfl (by decide) fl_X12_118 ?_
    refine ax_iconst (q := 26) dX12_closes_25 rfl ki_1 ?_
    refine ax_iadd (q := 27) dX12_closes_26 rfl ?_
    refine ax_puti (q := 30) (k := 0) (j := 3) dX12_closes_27 rfl shM_0 rfl rfl (by decide) fl_X12_118 rfl rfl rfl rfl ?_
    refine ax_aload_n (q := 31) (i := 0) dX12_closes_30 rfl rfl rfl ?_
    refine ax_dupr (q := 32) dX12_closes_31 rfl ?_
    refine ax_get (q := 35) (k := 0) (j := 5) (v := ax_i (σ.1 0 5)) dX12_closes_32 rfl shM_0 rfl rfl rfl (by decide) fl_X12_131 ?_
    refine ax_iconst (q := 36) dX12_closes_35 rfl ki_1 ?_
    refine ax_isub (q := 37) dX12_closes_36 rfl ?_
    refine ax_puti (q := 40) (k := 0) (j := 5) dX12_closes_37 rfl shM_0 rfl rfl (by decide) fl_X12_131 rfl rfl rfl rfl ?_
    exact ax_vret dX12_closes_40 rfl (k2 c1)
set_option maxRecDepth 20000 in
theorem s_X12_plainNumber_0 {d : Nat} (hd : 0 ≤ d) {Q : Option ax_V → ax_S → Prop} (σ : ax_S)  (k1 : ax_W shM (d + 1) mX12_plainNumber Q 4 [some (ax_r 0), some (ax_i (0 : Int32)), some (ax_i (0 : Int32))] [] σ) : ax_W shM (d + 1) mX12_plainNumber Q 0 [some (ax_r 0), none, none] [] σ := by
  refine ax_iconst (q := 1) dX12_plainNumber_0 rfl ki_0 ?_
  refine ax_istore_n (q := 2) (i := 1) (lv2 := [some (ax_r 0), some (ax_i (0 : Int32)), none]) dX12_plainNumber_1 rfl rfl (by decide) rfl rfl ?_
  refine ax_iconst (q := 3) dX12_plainNumber_2 rfl ki_0 ?_
  refine ax_istore_n (q := 4) (i := 2) (lv2 := [some (ax_r 0), some (ax_i (0 : Int32)), some (ax_i (0 : Int32))]) dX12_plainNumber_3 rfl rfl (by decide) rfl rfl ?_
  exact k1
set_option maxRecDepth 20000 in
theorem s_X12_plainNumber_4 {d : Nat} (hd : 1 ≤ d) {Q : Option ax_V → ax_S → Prop} (σ : ax_S) (x1 : Int32) (x2 : Int32) (h1 : ((4 : Int32) ≤ x2) → (¬ ((σ.1 0 2) ≤ (σ.1 0 3))) → vp_in (σ.1 0 3) 240) (k2 : ((4 : Int32) ≤ x2) → (¬ ((¬ ((if ((σ.1 0 2) ≤ (σ.1 0 3)) then (-1 : Int32) else (σ.1 1 (Int32.toNatClampNeg (σ.1 0 3)))) < (48 : Int32))) ∧ (¬ ((57 : Int32) < (if ((σ.1 0 2) ≤ (σ.1 0 3)) then (-1 : Int32) else (σ.1 1 (Int32.toNatClampNeg (σ.1 0 3)))))))) → Q (some (ax_i x1)) σ) (k3 : ((4 : Int32) ≤ x2) → ((¬ ((if ((σ.1 0 2) ≤ (σ.1 0 3)) then (-1 : Int32) else (σ.1 1 (Int32.toNatClampNeg (σ.1 0 3)))) < (48 : Int32))) ∧ (¬ ((57 : Int32) < (if ((σ.1 0 2) ≤ (σ.1 0 3)) then (-1 : Int32) else (σ.1 1 (Int32.toNatClampNeg (σ.1 0 3))))))) → Q (some (ax_i x1)) (ax_ui σ 0 4 (if (¬ (σ.1 0 4) = (-1 : Int32)) then (σ.1 0 4) else (σ.1 0 3)))) (h4 : (¬ ((4 : Int32) ≤ x2)) → (¬ ((σ.1 0 2) ≤ (σ.1 0 3))) → vp_in (σ.1 0 3) 240) (h5 : (¬ ((4 : Int32) ≤ x2)) → (¬ ((¬ ((if ((σ.1 0 2) ≤ (σ.1 0 3)) then (-1 : Int32) else (σ.1 1 (Int32.toNatClampNeg (σ.1 0 3)))) < (48 : Int32))) ∧ (¬ ((57 : Int32) < (if ((σ.1 0 2) ≤ (σ.1 0 3)) then (-1 : Int32) else (σ.1 1 (Int32.toNatClampNeg (σ.1 0 3)))))))) → (¬ ((σ.1 0 2) ≤ (σ.1 0 3))) → vp_in (σ.1 0 3) 240) (k6 : (¬ ((4 : Int32) ≤ x2)) → (¬ ((¬ ((if ((σ.1 0 2) ≤ (σ.1 0 3)) then (-1 : Int32) else (σ.1 1 (Int32.toNatClampNeg (σ.1 0 3)))) < (48 : Int32))) ∧ (¬ ((57 : Int32) < (if ((σ.1 0 2) ≤ (σ.1 0 3)) then (-1 : Int32) else (σ.1 1 (Int32.toNatClampNeg (σ.1 0 3)))))))) → Q (some (ax_i x1)) σ) (h7 : (¬ ((4 : Int32) ≤ x2)) → ((¬ ((if ((σ.1 0 2) ≤ (σ.1 0 3)) then (-1 : Int32) else (σ.1 1 (Int32.toNatClampNeg (σ.1 0 3)))) < (48 : Int32))) ∧ (¬ ((57 : Int32) < (if ((σ.1 0 2) ≤ (σ.1 0 3)) then (-1 : Int32) else (σ.1 1 (Int32.toNatClampNeg (σ.1 0 3))))))) → (¬ ((σ.1 0 2) ≤ (σ.1 0 3))) → vp_in (σ.1 0 3) 240) (k8 : (¬ ((4 : Int32) ≤ x2)) → ((¬ ((if ((σ.1 0 2) ≤ (σ.1 0 3)) then (-1 : Int32) else (σ.1 1 (Int32.toNatClampNeg (σ.1 0 3)))) < (48 : Int32))) ∧ (¬ ((57 : Int32) < (if ((σ.1 0 2) ≤ (σ.1 0 3)) then (-1 : Int32) else (σ.1 1 (Int32.toNatClampNeg (σ.1 0 3))))))) → ax_W shM (d + 1) mX12_plainNumber Q 4 [some (ax_r 0), some (ax_i ((((10 : Int32) * x1) + (if ((σ.1 0 2) ≤ (σ.1 0 3)) then (-1 : Int32) else (σ.1 1 (Int32.toNatClampNeg (σ.1 0 3))))) - (48 : Int32))), some (ax_i (x2 + (1 : Int32)))] [] (ax_ui σ 0 3 ((σ.1 0 3) + (1 : Int32)))) : ax_W shM (d + 1) mX12_plainNumber Q 4 [some (ax_r 0), some (ax_i x1), some (ax_i x2)] [] σ := by
  refine ax_iload_n (q := 5) (i := 2) dX12_plainNumber_4 rfl rfl rfl ?_
  refine ax_iconst (q := 6) dX12_plainNumber_5 rfl ki_4 ?_
  refine ax_icmp_ge (tgt := 48) (q := 9) dX12_plainNumber_6 (by decide) rfl (fun c1 => ?_) (fun c1 => ?_)
  · refine ax_aload_n (q := 49) (i := 0) dX12_plainNumber_48 rfl rfl rfl ?_
    refine ax_callVfi (q := 52) (As := []) (st := []) (x := (if ((σ.1 0 2) ≤ (σ.1 0 3)) then (-1 : Int32) else (σ.1 1 (Int32.toNatClampNeg (σ.1 0 3))))) (σ2 := σ) dX12_plainNumber_49 rfl lk_X12_121 shM_0 rfl rfl rfl rfl (Nat.le_of_ble_eq_true rfl) (f_X12_here σ  (h1 c1) (d := d) (by omega)) ?_
    refine ax_callSfi (q := 55) (As := [ax_i (if ((σ.1 0 2) ≤ (σ.1 0 3)) then (-1 : Int32) else (σ.1 1 (Int32.toNatClampNeg (σ.1 0 3))))]) (st := []) (x := (if ((¬ ((if ((σ.1 0 2) ≤ (σ.1 0 3)) then (-1 : Int32) else (σ.1 1 (Int32.toNatClampNeg (σ.1 0 3)))) < (48 : Int32))) ∧ (¬ ((57 : Int32) < (if ((σ.1 0 2) ≤ (σ.1 0 3)) then (-1 : Int32) else (σ.1 1 (Int32.toNatClampNeg (σ.1 0 3))))))) then (1 : Int32) else 0)) (σ2 := σ) dX12_plainNumber_52 rfl lk_X12_140 rfl rfl (Nat.le_of_ble_eq_true rfl) (f_X12_isDigit (sh := shM) σ (if ((σ.1 0 2) ≤ (σ.1 0 3)) then (-1 : Int32) else (σ.1 1 (Int32.toNatClampNeg (σ.1 0 3))))  (d := d) (by omega)) ?_
    refine ax_if_eqB (tgt := 62) (q := 58) dX12_plainNumber_55 (by decide) rfl (fun c2 => ?_) (fun c2 => ?_)
    · refine ax_iload_n (q := 63) (i := 1) dX12_plainNumber_62 rfl rfl rfl ?_
      exact ax_iret dX12_plainNumber_63 rfl rfl (k2 c1 c2)
    · refine ax_aload_n (q := 59) (i := 0) dX12_plainNumber_58 rfl rfl rfl ?_
      refine ax_callVfv (q := 62) (As := []) (st := []) (σ2 := (ax_ui σ 0 4 (if (¬ (σ.1 0 4) = (-1 : Int32)) then (σ.1 0 4) else (σ.1 0 3)))) dX12_plainNumber_59 rfl lk_X12_134 shM_0 rfl rfl rfl rfl (Nat.le_of_ble_eq_true rfl) (f_X12_bad σ   (d := d) (by omega)) ?_
      refine ax_iload_n (q := 63) (i := 1) dX12_plainNumber_62 rfl rfl rfl ?_
      exact ax_iret dX12_plainNumber_63 rfl rfl (k3 c1 c2)
  · refine ax_aload_n (q := 10) (i := 0) dX12_plainNumber_9 rfl rfl rfl ?_
    refine ax_callVfi (q := 13) (As := []) (st := []) (x := (if ((σ.1 0 2) ≤ (σ.1 0 3)) then (-1 : Int32) else (σ.1 1 (Int32.toNatClampNeg (σ.1 0 3))))) (σ2 := σ) dX12_plainNumber_10 rfl lk_X12_121 shM_0 rfl rfl rfl rfl (Nat.le_of_ble_eq_true rfl) (f_X12_here σ  (h4 c1) (d := d) (by omega)) ?_
    refine ax_callSfi (q := 16) (As := [ax_i (if ((σ.1 0 2) ≤ (σ.1 0 3)) then (-1 : Int32) else (σ.1 1 (Int32.toNatClampNeg (σ.1 0 3))))]) (st := []) (x := (if ((¬ ((if ((σ.1 0 2) ≤ (σ.1 0 3)) then (-1 : Int32) else (σ.1 1 (Int32.toNatClampNeg (σ.1 0 3)))) < (48 : Int32))) ∧ (¬ ((57 : Int32) < (if ((σ.1 0 2) ≤ (σ.1 0 3)) then (-1 : Int32) else (σ.1 1 (Int32.toNatClampNeg (σ.1 0 3))))))) then (1 : Int32) else 0)) (σ2 := σ) dX12_plainNumber_13 rfl lk_X12_140 rfl rfl (Nat.le_of_ble_eq_true rfl) (f_X12_isDigit (sh := shM) σ (if ((σ.1 0 2) ≤ (σ.1 0 3)) then (-1 : Int32) else (σ.1 1 (Int32.toNatClampNeg (σ.1 0 3))))  (d := d) (by omega)) ?_
    refine ax_if_eqB (tgt := 48) (q := 19) dX12_plainNumber_16 (by decide) rfl (fun c3 => ?_) (fun c3 => ?_)
    · refine ax_aload_n (q := 49) (i := 0) dX12_plainNumber_48 rfl rfl rfl ?_
      refine ax_callVfi (q := 52) (As := []) (st := []) (x := (if ((σ.1 0 2) ≤ (σ.1 0 3)) then (-1 : Int32) else (σ.1 1 (Int32.toNatClampNeg (σ.1 0 3))))) (σ2 := σ) dX12_plainNumber_49 rfl lk_X12_121 shM_0 rfl rfl rfl rfl (Nat.le_of_ble_eq_true rfl) (f_X12_here σ  (h5 c1 c3) (d := d) (by omega)) ?_
      refine ax_callSfi (q := 55) (As := [ax_i (if ((σ.1 0 2) ≤ (σ.1 0 3)) then (-1 : Int32) else (σ.1 1 (Int32.toNatClampNeg (σ.1 0 3))))]) (st := []) (x := (if ((¬ ((if ((σ.1 0 2) ≤ (σ.1 0 3)) then (-1 : Int32) else (σ.1 1 (Int32.toNatClampNeg (σ.1 0 3)))) < (48 : Int32))) ∧ (¬ ((57 : Int32) < (if ((σ.1 0 2) ≤ (σ.1 0 3)) then (-1 : Int32) else (σ.1 1 (Int32.toNatClampNeg (σ.1 0 3))))))) then (1 : Int32) else 0)) (σ2 := σ) dX12_plainNumber_52 rfl lk_X12_140 rfl rfl (Nat.le_of_ble_eq_true rfl) (f_X12_isDigit (sh := shM) σ (if ((σ.1 0 2) ≤ (σ.1 0 3)) then (-1 : Int32) else (σ.1 1 (Int32.toNatClampNeg (σ.1 0 3))))  (d := d) (by omega)) ?_
      refine ax_if_eqB (tgt := 62) (q := 58) dX12_plainNumber_55 (by decide) rfl (fun c4 => ?_) (fun c4 => ?_)
      · refine ax_iload_n (q := 63) (i := 1) dX12_plainNumber_62 rfl rfl rfl ?_
        exact ax_iret dX12_plainNumber_63 rfl rfl (k6 c1 c3)
      · exact absurd c4 c3
    · refine ax_bipush (q := 21) dX12_plainNumber_19 rfl kb_10 ?_
      refine ax_iload_n (q := 22) (i := 1) dX12_plainNumber_21 rfl rfl rfl ?_
      refine ax_imul (q := 23) dX12_plainNumber_22 rfl ?_
      refine ax_aload_n (q := 24) (i := 0) dX12_plainNumber_23 rfl rfl rfl ?_
      refine ax_callVfi (q := 27) (As := []) (st := [ax_i ((10 : Int32) * x1)]) (x := (if ((σ.1 0 2) ≤ (σ.1 0 3)) then (-1 : Int32) else (σ.1 1 (Int32.toNatClampNeg (σ.1 0 3))))) (σ2 := σ) dX12_plainNumber_24 rfl lk_X12_121 shM_0 rfl rfl rfl rfl (Nat.le_of_ble_eq_true rfl) (f_X12_here σ  (h7 c1 c3) (d := d) (by omega)) ?_
      refine ax_iadd (q := 28) dX12_plainNumber_27 rfl ?_
      refine ax_bipush (q := 30) dX12_plainNumber_28 rfl kb_48 ?_
      refine ax_isub (q := 31) dX12_plainNumber_30 rfl ?_
      refine ax_istore_n (q := 32) (i := 1) (lv2 := [some (ax_r 0), some (ax_i ((((10 : Int32) * x1) + (if ((σ.1 0 2) ≤ (σ.1 0 3)) then (-1 : Int32) else (σ.1 1 (Int32.toNatClampNeg (σ.1 0 3))))) - (48 : Int32))), some (ax_i x2)]) dX12_plainNumber_31 rfl rfl (by decide) rfl rfl ?_
      refine ax_aload_n (q := 33) (i := 0) dX12_plainNumber_32 rfl rfl rfl ?_
      refine ax_dupr (q := 34) dX12_plainNumber_33 rfl ?_
      refine ax_get (q := 37) (k := 0) (j := 3) (v := ax_i (σ.1 0 3)) dX12_plainNumber_34 rfl shM_0 rfl rfl rfl (by decide) fl_X12_118 ?_
      refine ax_iconst (q := 38) dX12_plainNumber_37 rfl ki_1 ?_
      refine ax_iadd (q := 39) dX12_plainNumber_38 rfl ?_
      refine ax_puti (q := 42) (k := 0) (j := 3) dX12_plainNumber_39 rfl shM_0 rfl rfl (by decide) fl_X12_118 rfl rfl rfl rfl ?_
      refine ax_iincK (q := 45) (lv2 := [some (ax_r 0), some (ax_i ((((10 : Int32) * x1) + (if ((σ.1 0 2) ≤ (σ.1 0 3)) then (-1 : Int32) else (σ.1 1 (Int32.toNatClampNeg (σ.1 0 3))))) - (48 : Int32))), some (ax_i (x2 + (1 : Int32)))]) dX12_plainNumber_42 rfl rfl ki_1 (by decide) rfl rfl ?_
      refine ax_goto (tgt := 4) dX12_plainNumber_45 (by decide) ?_
      exact (k8 c1 c3)
