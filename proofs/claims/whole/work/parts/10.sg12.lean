set_option maxRecDepth 20000 in
theorem s_X12_goOver_0 {d : Nat} (hd : 1 ≤ d) {Q : Option ax_V → ax_S → Prop} (σ : ax_S) (a0 : Int32) (a1 : Int32) (a2 : Int32) (h1 : vp_in (((16 : Int32) + ((4 : Int32) * a0)) + (2 : Int32)) 268) (k2 : ((a2 - (σ.1 15 (Int32.toNatClampNeg (((16 : Int32) + ((4 : Int32) * a0)) + (2 : Int32))))) ≤ 0) → Q none (ax_ui σ 0 35 ((σ.1 0 35) + (if (σ.1 15 (Int32.toNatClampNeg (((16 : Int32) + ((4 : Int32) * a0)) + (2 : Int32)))) < a2 then (σ.1 15 (Int32.toNatClampNeg (((16 : Int32) + ((4 : Int32) * a0)) + (2 : Int32)))) else a2)))) (h3 : (¬ ((a2 - (σ.1 15 (Int32.toNatClampNeg (((16 : Int32) + ((4 : Int32) * a0)) + (2 : Int32))))) ≤ 0)) → vp_in (((16 : Int32) + ((4 : Int32) * a0)) + (0 : Int32)) 268) (h4 : (¬ ((a2 - (σ.1 15 (Int32.toNatClampNeg (((16 : Int32) + ((4 : Int32) * a0)) + (2 : Int32))))) ≤ 0)) → vp_in (((16 : Int32) + ((4 : Int32) * a0)) + (1 : Int32)) 268) (h5 : (¬ ((a2 - (σ.1 15 (Int32.toNatClampNeg (((16 : Int32) + ((4 : Int32) * a0)) + (2 : Int32))))) ≤ 0)) → vp_in (σ.1 0 34) 36) (k6 : (¬ ((a2 - (σ.1 15 (Int32.toNatClampNeg (((16 : Int32) + ((4 : Int32) * a0)) + (2 : Int32))))) ≤ 0)) → Q none (ax_ui (ax_ui (ax_ui (ax_ui (ax_ui σ 0 35 ((σ.1 0 35) + (if (σ.1 15 (Int32.toNatClampNeg (((16 : Int32) + ((4 : Int32) * a0)) + (2 : Int32)))) < a2 then (σ.1 15 (Int32.toNatClampNeg (((16 : Int32) + ((4 : Int32) * a0)) + (2 : Int32)))) else a2))) 17 (Int32.toNatClampNeg (σ.1 0 34)) (((σ.1 15 (Int32.toNatClampNeg (((16 : Int32) + ((4 : Int32) * a0)) + (0 : Int32)))) + (σ.1 15 (Int32.toNatClampNeg (((16 : Int32) + ((4 : Int32) * a0)) + (1 : Int32))))) - a1)) 18 (Int32.toNatClampNeg (σ.1 0 34)) (a2 - (σ.1 15 (Int32.toNatClampNeg (((16 : Int32) + ((4 : Int32) * a0)) + (2 : Int32)))))) 19 (Int32.toNatClampNeg (σ.1 0 34)) a0) 0 34 ((σ.1 0 34) + (1 : Int32)))) : ax_W shM (d + 1) mX12_goOver Q 0 [some (ax_r 0), some (ax_i a0), some (ax_i a1), some (ax_i a2), none] [] σ := by
  refine ax_iload_n (q := 1) (i := 3) dX12_goOver_0 rfl rfl rfl ?_
  refine ax_aload_n (q := 2) (i := 0) dX12_goOver_1 rfl rfl rfl ?_
  refine ax_iload_n (q := 3) (i := 1) dX12_goOver_2 rfl rfl rfl ?_
  refine ax_iconst (q := 4) dX12_goOver_3 rfl ki_2 ?_
  refine ax_callVfi (q := 7) (As := [ax_i a0, ax_i (2 : Int32)]) (st := [ax_i a2]) (x := (σ.1 15 (Int32.toNatClampNeg (((16 : Int32) + ((4 : Int32) * a0)) + (2 : Int32))))) (σ2 := σ) dX12_goOver_4 rfl lk_X12_306 shM_0 rfl rfl rfl rfl (Nat.le_of_ble_eq_true rfl) (f_X12_ofWire σ a0 (2 : Int32) h1 (d := d) (by omega)) ?_
  refine ax_isub (q := 8) dX12_goOver_7 rfl ?_
  refine ax_istore (q := 10) (lv2 := [some (ax_r 0), some (ax_i a0), some (ax_i a1), some (ax_i a2), some (ax_i (a2 - (σ.1 15 (Int32.toNatClampNeg (((16 : Int32) + ((4 : Int32) * a0)) + (2 : Int32))))))]) dX12_goOver_8 rfl (by decide) rfl rfl ?_
  refine ax_aload_n (q := 11) (i := 0) dX12_goOver_10 rfl rfl rfl ?_
  refine ax_dupr (q := 12) dX12_goOver_11 rfl ?_
  refine ax_get (q := 15) (k := 0) (j := 35) (v := ax_i (σ.1 0 35)) dX12_goOver_12 rfl shM_0 rfl rfl rfl (by decide) fl_X12_324 ?_
  refine ax_iload_n (q := 16) (i := 3) dX12_goOver_15 rfl rfl rfl ?_
  refine ax_aload_n (q := 17) (i := 0) dX12_goOver_16 rfl rfl rfl ?_
  refine ax_iload_n (q := 18) (i := 1) dX12_goOver_17 rfl rfl rfl ?_
  refine ax_iconst (q := 19) dX12_goOver_18 rfl ki_2 ?_
  refine ax_callVfi (q := 22) (As := [ax_i a0, ax_i (2 : Int32)]) (st := [ax_i a2, ax_i (σ.1 0 35), ax_r 0]) (x := (σ.1 15 (Int32.toNatClampNeg (((16 : Int32) + ((4 : Int32) * a0)) + (2 : Int32))))) (σ2 := σ) dX12_goOver_19 rfl lk_X12_306 shM_0 rfl rfl rfl rfl (Nat.le_of_ble_eq_true rfl) (f_X12_ofWire σ a0 (2 : Int32) h1 (d := d) (by omega)) ?_
  refine ax_mmin (q := 25) dX12_goOver_22 rfl mk_X12_253 (Nat.le_of_ble_eq_true rfl) ?_
  refine ax_iadd (q := 26) dX12_goOver_25 rfl ?_
  refine ax_puti (q := 29) (k := 0) (j := 35) dX12_goOver_26 rfl shM_0 rfl rfl (by decide) fl_X12_324 rfl rfl rfl rfl ?_
  refine ax_iload (q := 31) dX12_goOver_29 rfl rfl ?_
  refine ax_if_le (tgt := 56) (q := 34) dX12_goOver_31 (by decide) rfl (fun c1 => ?_) (fun c1 => ?_)
  · exact ax_vret dX12_goOver_56 rfl (k2 c1)
  · refine ax_aload_n (q := 35) (i := 0) dX12_goOver_34 rfl rfl rfl ?_
    refine ax_aload_n (q := 36) (i := 0) dX12_goOver_35 rfl rfl rfl ?_
    refine ax_iload_n (q := 37) (i := 1) dX12_goOver_36 rfl rfl rfl ?_
    refine ax_iconst (q := 38) dX12_goOver_37 rfl ki_0 ?_
    refine ax_callVfi (q := 41) (As := [ax_i a0, ax_i (0 : Int32)]) (st := [ax_r 0]) (x := (σ.1 15 (Int32.toNatClampNeg (((16 : Int32) + ((4 : Int32) * a0)) + (0 : Int32))))) (σ2 := (ax_ui σ 0 35 ((σ.1 0 35) + (if (σ.1 15 (Int32.toNatClampNeg (((16 : Int32) + ((4 : Int32) * a0)) + (2 : Int32)))) < a2 then (σ.1 15 (Int32.toNatClampNeg (((16 : Int32) + ((4 : Int32) * a0)) + (2 : Int32)))) else a2)))) dX12_goOver_38 rfl lk_X12_306 shM_0 rfl rfl rfl rfl (Nat.le_of_ble_eq_true rfl) (f_X12_ofWire (ax_ui σ 0 35 ((σ.1 0 35) + (if (σ.1 15 (Int32.toNatClampNeg (((16 : Int32) + ((4 : Int32) * a0)) + (2 : Int32)))) < a2 then (σ.1 15 (Int32.toNatClampNeg (((16 : Int32) + ((4 : Int32) * a0)) + (2 : Int32)))) else a2))) a0 (0 : Int32) (h3 c1) (d := d) (by omega)) ?_
    refine ax_aload_n (q := 42) (i := 0) dX12_goOver_41 rfl rfl rfl ?_
    refine ax_iload_n (q := 43) (i := 1) dX12_goOver_42 rfl rfl rfl ?_
    refine ax_iconst (q := 44) dX12_goOver_43 rfl ki_1 ?_
    refine ax_callVfi (q := 47) (As := [ax_i a0, ax_i (1 : Int32)]) (st := [ax_i (σ.1 15 (Int32.toNatClampNeg (((16 : Int32) + ((4 : Int32) * a0)) + (0 : Int32)))), ax_r 0]) (x := (σ.1 15 (Int32.toNatClampNeg (((16 : Int32) + ((4 : Int32) * a0)) + (1 : Int32))))) (σ2 := (ax_ui σ 0 35 ((σ.1 0 35) + (if (σ.1 15 (Int32.toNatClampNeg (((16 : Int32) + ((4 : Int32) * a0)) + (2 : Int32)))) < a2 then (σ.1 15 (Int32.toNatClampNeg (((16 : Int32) + ((4 : Int32) * a0)) + (2 : Int32)))) else a2)))) dX12_goOver_44 rfl lk_X12_306 shM_0 rfl rfl rfl rfl (Nat.le_of_ble_eq_true rfl) (f_X12_ofWire (ax_ui σ 0 35 ((σ.1 0 35) + (if (σ.1 15 (Int32.toNatClampNeg (((16 : Int32) + ((4 : Int32) * a0)) + (2 : Int32)))) < a2 then (σ.1 15 (Int32.toNatClampNeg (((16 : Int32) + ((4 : Int32) * a0)) + (2 : Int32)))) else a2))) a0 (1 : Int32) (h4 c1) (d := d) (by omega)) ?_
    refine ax_iadd (q := 48) dX12_goOver_47 rfl ?_
    refine ax_iload_n (q := 49) (i := 2) dX12_goOver_48 rfl rfl rfl ?_
    refine ax_isub (q := 50) dX12_goOver_49 rfl ?_
    refine ax_iload (q := 52) dX12_goOver_50 rfl rfl ?_
    refine ax_iload_n (q := 53) (i := 1) dX12_goOver_52 rfl rfl rfl ?_
    refine ax_callVfv (q := 56) (As := [ax_i (((σ.1 15 (Int32.toNatClampNeg (((16 : Int32) + ((4 : Int32) * a0)) + (0 : Int32)))) + (σ.1 15 (Int32.toNatClampNeg (((16 : Int32) + ((4 : Int32) * a0)) + (1 : Int32))))) - a1), ax_i (a2 - (σ.1 15 (Int32.toNatClampNeg (((16 : Int32) + ((4 : Int32) * a0)) + (2 : Int32))))), ax_i a0]) (st := []) (σ2 := (ax_ui (ax_ui (ax_ui (ax_ui (ax_ui σ 0 35 ((σ.1 0 35) + (if (σ.1 15 (Int32.toNatClampNeg (((16 : Int32) + ((4 : Int32) * a0)) + (2 : Int32)))) < a2 then (σ.1 15 (Int32.toNatClampNeg (((16 : Int32) + ((4 : Int32) * a0)) + (2 : Int32)))) else a2))) 17 (Int32.toNatClampNeg (σ.1 0 34)) (((σ.1 15 (Int32.toNatClampNeg (((16 : Int32) + ((4 : Int32) * a0)) + (0 : Int32)))) + (σ.1 15 (Int32.toNatClampNeg (((16 : Int32) + ((4 : Int32) * a0)) + (1 : Int32))))) - a1)) 18 (Int32.toNatClampNeg (σ.1 0 34)) (a2 - (σ.1 15 (Int32.toNatClampNeg (((16 : Int32) + ((4 : Int32) * a0)) + (2 : Int32)))))) 19 (Int32.toNatClampNeg (σ.1 0 34)) a0) 0 34 ((σ.1 0 34) + (1 : Int32)))) dX12_goOver_53 rfl lk_X12_327 shM_0 rfl rfl rfl rfl (Nat.le_of_ble_eq_true rfl) (f_X12_sendPart (ax_ui σ 0 35 ((σ.1 0 35) + (if (σ.1 15 (Int32.toNatClampNeg (((16 : Int32) + ((4 : Int32) * a0)) + (2 : Int32)))) < a2 then (σ.1 15 (Int32.toNatClampNeg (((16 : Int32) + ((4 : Int32) * a0)) + (2 : Int32)))) else a2))) (((σ.1 15 (Int32.toNatClampNeg (((16 : Int32) + ((4 : Int32) * a0)) + (0 : Int32)))) + (σ.1 15 (Int32.toNatClampNeg (((16 : Int32) + ((4 : Int32) * a0)) + (1 : Int32))))) - a1) (a2 - (σ.1 15 (Int32.toNatClampNeg (((16 : Int32) + ((4 : Int32) * a0)) + (2 : Int32))))) a0 (h5 c1) (d := d) (by omega)) ?_
    exact ax_vret dX12_goOver_56 rfl (k6 c1)
set_option maxRecDepth 20000 in
theorem s_X12_layStroke_0 {d : Nat} (hd : 0 ≤ d) {Q : Option ax_V → ax_S → Prop} (σ : ax_S) (a0 : Int32) (a1 : Int32) (k1 : ax_W shM (d + 1) mX12_layStroke Q 2 [some (ax_r 0), some (ax_i a0), some (ax_i a1), some (ax_i (0 : Int32)), none, none, none, none, none, none, none] [] σ) : ax_W shM (d + 1) mX12_layStroke Q 0 [some (ax_r 0), some (ax_i a0), some (ax_i a1), none, none, none, none, none, none, none, none] [] σ := by
  refine ax_iconst (q := 1) dX12_layStroke_0 rfl ki_0 ?_
  refine ax_istore_n (q := 2) (i := 3) (lv2 := [some (ax_r 0), some (ax_i a0), some (ax_i a1), some (ax_i (0 : Int32)), none, none, none, none, none, none, none]) dX12_layStroke_1 rfl rfl (by decide) rfl rfl ?_
  exact k1
set_option maxRecDepth 20000 in
theorem s_X12_layStroke_2 {d : Nat} (hd : 1 ≤ d) {Q : Option ax_V → ax_S → Prop} (σ : ax_S) (x1 : Int32) (x2 : Int32) (x3 : Int32) (k1 : ((8 : Int32) ≤ x3) → ax_W shM (d + 1) mX12_layStroke Q 43 [some (ax_r 0), none, none, some (ax_i (0 : Int32)), some (ax_i (0 : Int32)), none, none, none, none, none, none] [] (ax_ui (ax_ui (ax_ui (ax_ui (ax_ui (ax_ui σ 0 34 (0 : Int32)) 0 35 (0 : Int32)) 17 0 x1) 18 0 x2) 19 0 (-1 : Int32)) 0 34 ((0 : Int32) + (1 : Int32)))) (h2 : (¬ ((8 : Int32) ≤ x3)) → vp_in x3 8) (k3 : (¬ ((8 : Int32) ≤ x3)) → ax_W shM (d + 1) mX12_layStroke Q 2 [some (ax_r 0), some (ax_i x1), some (ax_i x2), some (ax_i (x3 + (1 : Int32))), none, none, none, none, none, none, none] [] (ax_ui σ 20 (Int32.toNatClampNeg x3) (0 : Int32))) : ax_W shM (d + 1) mX12_layStroke Q 2 [some (ax_r 0), some (ax_i x1), some (ax_i x2), some (ax_i x3), none, none, none, none, none, none, none] [] σ := by
  refine ax_iload_n (q := 3) (i := 3) dX12_layStroke_2 rfl rfl rfl ?_
  refine ax_bipush (q := 5) dX12_layStroke_3 rfl kb_8 ?_
  refine ax_icmp_ge (tgt := 21) (q := 8) dX12_layStroke_5 (by decide) rfl (fun c1 => ?_) (fun c1 => ?_)
  · refine ax_aload_n (q := 22) (i := 0) dX12_layStroke_21 rfl rfl rfl ?_
    refine ax_iconst (q := 23) dX12_layStroke_22 rfl ki_0 ?_
    refine ax_puti (q := 26) (k := 0) (j := 34) dX12_layStroke_23 rfl shM_0 rfl rfl (by decide) fl_X12_318 rfl rfl rfl rfl ?_
    refine ax_aload_n (q := 27) (i := 0) dX12_layStroke_26 rfl rfl rfl ?_
    refine ax_iconst (q := 28) dX12_layStroke_27 rfl ki_0 ?_
    refine ax_puti (q := 31) (k := 0) (j := 35) dX12_layStroke_28 rfl shM_0 rfl rfl (by decide) fl_X12_324 rfl rfl rfl rfl ?_
    refine ax_aload_n (q := 32) (i := 0) dX12_layStroke_31 rfl rfl rfl ?_
    refine ax_iload_n (q := 33) (i := 1) dX12_layStroke_32 rfl rfl rfl ?_
    refine ax_iload_n (q := 34) (i := 2) dX12_layStroke_33 rfl rfl rfl ?_
    refine ax_iconst (q := 35) dX12_layStroke_34 rfl ki_m1 ?_
    refine ax_callVfv (q := 38) (As := [ax_i x1, ax_i x2, ax_i (-1 : Int32)]) (st := []) (σ2 := (ax_ui (ax_ui (ax_ui (ax_ui (ax_ui (ax_ui σ 0 34 (0 : Int32)) 0 35 (0 : Int32)) 17 0 x1) 18 0 x2) 19 0 (-1 : Int32)) 0 34 ((0 : Int32) + (1 : Int32)))) dX12_layStroke_35 rfl lk_X12_327 shM_0 rfl rfl rfl rfl (Nat.le_of_ble_eq_true rfl) (f_X12_sendPart (ax_ui (ax_ui σ 0 34 (0 : Int32)) 0 35 (0 : Int32)) x1 x2 (-1 : Int32) (ax_inl 0 36 (by decide) (by decide)) (d := d) (by omega)) ?_
    refine ax_iconst (q := 39) dX12_layStroke_38 rfl ki_0 ?_
    refine ax_istore_n (q := 40) (i := 3) (lv2 := [some (ax_r 0), some (ax_i x1), some (ax_i x2), some (ax_i (0 : Int32)), none, none, none, none, none, none, none]) dX12_layStroke_39 rfl rfl (by decide) rfl rfl ?_
    refine ax_iconst (q := 41) dX12_layStroke_40 rfl ki_0 ?_
    refine ax_istore (q := 43) (lv2 := [some (ax_r 0), some (ax_i x1), some (ax_i x2), some (ax_i (0 : Int32)), some (ax_i (0 : Int32)), none, none, none, none, none, none]) dX12_layStroke_41 rfl (by decide) rfl rfl ?_
    refine ax_fg (lv2 := [some (ax_r 0), none, none, some (ax_i (0 : Int32)), some (ax_i (0 : Int32)), none, none, none, none, none, none]) ⟨rfl, rfl, rfl, trivial⟩ ?_
    exact (k1 c1)
  · refine ax_aload_n (q := 9) (i := 0) dX12_layStroke_8 rfl rfl rfl ?_
    refine ax_get (q := 12) (k := 0) (j := 33) (v := ax_r 20) dX12_layStroke_9 rfl shM_0 rfl rfl rfl (by decide) fl_X12_74 ?_
    refine ax_iload_n (q := 13) (i := 3) dX12_layStroke_12 rfl rfl rfl ?_
    refine ax_iconst (q := 14) dX12_layStroke_13 rfl ki_0 ?_
    refine ax_iast (q := 15) (a := (Int32.toNatClampNeg x3)) dX12_layStroke_14 rfl shM_20 (h2 c1) rfl ?_
    refine ax_iincK (q := 18) (lv2 := [some (ax_r 0), some (ax_i x1), some (ax_i x2), some (ax_i (x3 + (1 : Int32))), none, none, none, none, none, none, none]) dX12_layStroke_15 rfl rfl ki_1 (by decide) rfl rfl ?_
    refine ax_goto (tgt := 2) dX12_layStroke_18 (by decide) ?_
    exact (k3 c1)
set_option maxRecDepth 20000 in
theorem s_X12_layStroke_43 {d : Nat} (hd : 1 ≤ d) {Q : Option ax_V → ax_S → Prop} (σ : ax_S) (x3 : Int32) (x4 : Int32) (k1 : ((σ.1 0 34) ≤ x4) → Q none σ) (h2 : (¬ ((σ.1 0 34) ≤ x4)) → vp_in x4 36) (h3 : (¬ ((σ.1 0 34) ≤ x4)) → (¬ (¬ (¬ ((x3 >>> ((σ.1 17 (Int32.toNatClampNeg x4)) &&& 31)) &&& (1 : Int32)) = (1 : Int32)))) → vp_in x4 36) (k4 : (¬ ((σ.1 0 34) ≤ x4)) → (¬ (¬ (¬ ((x3 >>> ((σ.1 17 (Int32.toNatClampNeg x4)) &&& 31)) &&& (1 : Int32)) = (1 : Int32)))) → ax_Ct shM d mX12_liveAt [ax_r 0, ax_i (σ.1 17 (Int32.toNatClampNeg x4)), ax_i (σ.1 19 (Int32.toNatClampNeg x4))] (fun r u => ∃ x : Int32, r = some (ax_i x) ∧ ax_W shM (d + 1) mX12_layStroke Q 96 [some (ax_r 0), none, none, some (ax_i x3), some (ax_i x4), some (ax_i (σ.1 17 (Int32.toNatClampNeg x4))), some (ax_i (σ.1 18 (Int32.toNatClampNeg x4))), none, none, none, none] (ax_i x :: []) u) σ) (k5 : (¬ ((σ.1 0 34) ≤ x4)) → (¬ (¬ ((x3 >>> ((σ.1 17 (Int32.toNatClampNeg x4)) &&& 31)) &&& (1 : Int32)) = (1 : Int32))) → (¬ (0 : Int32) = 0) → ax_Ct shM d mX12_keepsBy [ax_r 0, ax_i (σ.1 17 (Int32.toNatClampNeg x4)), ax_i (σ.1 18 (Int32.toNatClampNeg x4)), ax_i (0 : Int32)] (fun r u => ∃ x : Int32, r = some (ax_i x) ∧ ax_W shM (d + 1) mX12_layStroke Q 126 [some (ax_r 0), none, none, some (ax_i (x3 ||| ((1 : Int32) <<< ((σ.1 17 (Int32.toNatClampNeg x4)) &&& 31)))), some (ax_i x4), some (ax_i (σ.1 17 (Int32.toNatClampNeg x4))), some (ax_i (σ.1 18 (Int32.toNatClampNeg x4))), some (ax_i (0 : Int32)), none, none, none] (ax_i x :: [ax_i (σ.1 18 (Int32.toNatClampNeg x4))]) u) σ) (h6 : (¬ ((σ.1 0 34) ≤ x4)) → (¬ (¬ ((x3 >>> ((σ.1 17 (Int32.toNatClampNeg x4)) &&& 31)) &&& (1 : Int32)) = (1 : Int32))) → (¬ (¬ (0 : Int32) = 0)) → (¬ (0 : Int32) = 0) → ¬ (0 : Int32) = 0) (h7 : (¬ ((σ.1 0 34) ≤ x4)) → (¬ (¬ ((x3 >>> ((σ.1 17 (Int32.toNatClampNeg x4)) &&& 31)) &&& (1 : Int32)) = (1 : Int32))) → (¬ (¬ (0 : Int32) = 0)) → vp_in (σ.1 17 (Int32.toNatClampNeg x4)) 8) (k8 : (¬ ((σ.1 0 34) ≤ x4)) → (¬ (¬ ((x3 >>> ((σ.1 17 (Int32.toNatClampNeg x4)) &&& 31)) &&& (1 : Int32)) = (1 : Int32))) → (¬ (¬ (0 : Int32) = 0)) → ax_W shM (d + 1) mX12_layStroke Q 166 [some (ax_r 0), none, none, some (ax_i (x3 ||| ((1 : Int32) <<< ((σ.1 17 (Int32.toNatClampNeg x4)) &&& 31)))), some (ax_i x4), some (ax_i (σ.1 17 (Int32.toNatClampNeg x4))), none, some (ax_i (0 : Int32)), none, some (ax_i (if (¬ (0 : Int32) = 0) then ((0 : Int32) / (0 : Int32)) else (0 : Int32))), some (ax_i (0 : Int32))] [] (ax_ui σ 20 (Int32.toNatClampNeg (σ.1 17 (Int32.toNatClampNeg x4))) ((σ.1 20 (Int32.toNatClampNeg (σ.1 17 (Int32.toNatClampNeg x4)))) + ((σ.1 18 (Int32.toNatClampNeg x4)) - ((if (¬ (0 : Int32) = 0) then ((0 : Int32) / (0 : Int32)) else (0 : Int32)) * (0 : Int32)))))) : ax_W shM (d + 1) mX12_layStroke Q 43 [some (ax_r 0), none, none, some (ax_i x3), some (ax_i x4), none, none, none, none, none, none] [] σ := by
  refine ax_iload (q := 45) dX12_layStroke_43 rfl rfl ?_
  refine ax_aload_n (q := 46) (i := 0) dX12_layStroke_45 rfl rfl rfl ?_
  refine ax_get (q := 49) (k := 0) (j := 34) (v := ax_i (σ.1 0 34)) dX12_layStroke_46 rfl shM_0 rfl rfl rfl (by decide) fl_X12_318 ?_
  refine ax_icmp_ge (tgt := 237) (q := 52) dX12_layStroke_49 (by decide) rfl (fun c1 => ?_) (fun c1 => ?_)
  · exact ax_vret dX12_layStroke_237 rfl (k1 c1)
  · refine ax_aload_n (q := 53) (i := 0) dX12_layStroke_52 rfl rfl rfl ?_
    refine ax_get (q := 56) (k := 0) (j := 30) (v := ax_r 17) dX12_layStroke_53 rfl shM_0 rfl rfl rfl (by decide) fl_X12_65 ?_
    refine ax_iload (q := 58) dX12_layStroke_56 rfl rfl ?_
    refine ax_iald (q := 59) (a := (Int32.toNatClampNeg x4)) (v := (σ.1 17 (Int32.toNatClampNeg x4))) dX12_layStroke_58 rfl shM_17 (h2 c1) rfl rfl ?_
    refine ax_istore (q := 61) (lv2 := [some (ax_r 0), none, none, some (ax_i x3), some (ax_i x4), some (ax_i (σ.1 17 (Int32.toNatClampNeg x4))), none, none, none, none, none]) dX12_layStroke_59 rfl (by decide) rfl rfl ?_
    refine ax_aload_n (q := 62) (i := 0) dX12_layStroke_61 rfl rfl rfl ?_
    refine ax_get (q := 65) (k := 0) (j := 31) (v := ax_r 18) dX12_layStroke_62 rfl shM_0 rfl rfl rfl (by decide) fl_X12_68 ?_
    refine ax_iload (q := 67) dX12_layStroke_65 rfl rfl ?_
    refine ax_iald (q := 68) (a := (Int32.toNatClampNeg x4)) (v := (σ.1 18 (Int32.toNatClampNeg x4))) dX12_layStroke_67 rfl shM_18 (h2 c1) rfl rfl ?_
    refine ax_istore (q := 70) (lv2 := [some (ax_r 0), none, none, some (ax_i x3), some (ax_i x4), some (ax_i (σ.1 17 (Int32.toNatClampNeg x4))), some (ax_i (σ.1 18 (Int32.toNatClampNeg x4))), none, none, none, none]) dX12_layStroke_68 rfl (by decide) rfl rfl ?_
    refine ax_iload_n (q := 71) (i := 3) dX12_layStroke_70 rfl rfl rfl ?_
    refine ax_iload (q := 73) dX12_layStroke_71 rfl rfl ?_
    refine ax_callSfi (q := 76) (As := [ax_i x3, ax_i (σ.1 17 (Int32.toNatClampNeg x4))]) (st := []) (x := (if (¬ (¬ ((x3 >>> ((σ.1 17 (Int32.toNatClampNeg x4)) &&& 31)) &&& (1 : Int32)) = (1 : Int32))) then (1 : Int32) else 0)) (σ2 := σ) dX12_layStroke_73 rfl lk_X12_234 rfl rfl (Nat.le_of_ble_eq_true rfl) (f_X12_has (sh := shM) σ x3 (σ.1 17 (Int32.toNatClampNeg x4))  (d := d) (by omega)) ?_
    refine ax_if_eqB (tgt := 83) (q := 79) dX12_layStroke_76 (by decide) rfl (fun c2 => ?_) (fun c2 => ?_)
    · refine ax_aload_n (q := 84) (i := 0) dX12_layStroke_83 rfl rfl rfl ?_
      refine ax_iload (q := 86) dX12_layStroke_84 rfl rfl ?_
      refine ax_aload_n (q := 87) (i := 0) dX12_layStroke_86 rfl rfl rfl ?_
      refine ax_get (q := 90) (k := 0) (j := 32) (v := ax_r 19) dX12_layStroke_87 rfl shM_0 rfl rfl rfl (by decide) fl_X12_71 ?_
      refine ax_iload (q := 92) dX12_layStroke_90 rfl rfl ?_
      refine ax_iald (q := 93) (a := (Int32.toNatClampNeg x4)) (v := (σ.1 19 (Int32.toNatClampNeg x4))) dX12_layStroke_92 rfl shM_19 (h3 c1 c2) rfl rfl ?_
      exact ax_callVci (q := 96) (As := [ax_i (σ.1 17 (Int32.toNatClampNeg x4)), ax_i (σ.1 19 (Int32.toNatClampNeg x4))]) (st := []) dX12_layStroke_93 rfl lk_X12_330 shM_0 rfl rfl rfl rfl (Nat.le_of_ble_eq_true rfl) (k4 c1 c2)
    · refine ax_iconst (q := 80) dX12_layStroke_79 rfl ki_0 ?_
      refine ax_goto (tgt := 96) dX12_layStroke_80 (by decide) ?_
      refine ax_istore (q := 98) (lv2 := [some (ax_r 0), none, none, some (ax_i x3), some (ax_i x4), some (ax_i (σ.1 17 (Int32.toNatClampNeg x4))), some (ax_i (σ.1 18 (Int32.toNatClampNeg x4))), some (ax_i (0 : Int32)), none, none, none]) dX12_layStroke_96 rfl (by decide) rfl rfl ?_
      refine ax_iload_n (q := 99) (i := 3) dX12_layStroke_98 rfl rfl rfl ?_
      refine ax_iconst (q := 100) dX12_layStroke_99 rfl ki_1 ?_
      refine ax_iload (q := 102) dX12_layStroke_100 rfl rfl ?_
      refine ax_ishl (q := 103) dX12_layStroke_102 rfl ?_
      refine ax_ior (q := 104) dX12_layStroke_103 rfl ?_
      refine ax_istore_n (q := 105) (i := 3) (lv2 := [some (ax_r 0), none, none, some (ax_i (x3 ||| ((1 : Int32) <<< ((σ.1 17 (Int32.toNatClampNeg x4)) &&& 31)))), some (ax_i x4), some (ax_i (σ.1 17 (Int32.toNatClampNeg x4))), some (ax_i (σ.1 18 (Int32.toNatClampNeg x4))), some (ax_i (0 : Int32)), none, none, none]) dX12_layStroke_104 rfl rfl (by decide) rfl rfl ?_
      refine ax_iload (q := 107) dX12_layStroke_105 rfl rfl ?_
      refine ax_if_ne (tgt := 114) (q := 110) dX12_layStroke_107 (by decide) rfl (fun c3 => ?_) (fun c3 => ?_)
      · refine ax_iload (q := 116) dX12_layStroke_114 rfl rfl ?_
        refine ax_aload_n (q := 117) (i := 0) dX12_layStroke_116 rfl rfl rfl ?_
        refine ax_iload (q := 119) dX12_layStroke_117 rfl rfl ?_
        refine ax_iload (q := 121) dX12_layStroke_119 rfl rfl ?_
        refine ax_iload (q := 123) dX12_layStroke_121 rfl rfl ?_
        exact ax_callVci (q := 126) (As := [ax_i (σ.1 17 (Int32.toNatClampNeg x4)), ax_i (σ.1 18 (Int32.toNatClampNeg x4)), ax_i (0 : Int32)]) (st := [ax_i (σ.1 18 (Int32.toNatClampNeg x4))]) dX12_layStroke_123 rfl lk_X12_333 shM_0 rfl rfl rfl rfl (Nat.le_of_ble_eq_true rfl) (k5 c1 c2 c3)
      · refine ax_iconst (q := 111) dX12_layStroke_110 rfl ki_0 ?_
        refine ax_goto (tgt := 127) dX12_layStroke_111 (by decide) ?_
        refine ax_istore (q := 129) (lv2 := [some (ax_r 0), none, none, some (ax_i (x3 ||| ((1 : Int32) <<< ((σ.1 17 (Int32.toNatClampNeg x4)) &&& 31)))), some (ax_i x4), some (ax_i (σ.1 17 (Int32.toNatClampNeg x4))), some (ax_i (σ.1 18 (Int32.toNatClampNeg x4))), some (ax_i (0 : Int32)), some (ax_i (0 : Int32)), none, none]) dX12_layStroke_127 rfl (by decide) rfl rfl ?_
        refine ax_iload (q := 131) dX12_layStroke_129 rfl rfl ?_
        have K5 : ax_W shM (d + 1) mX12_layStroke Q 143 [some (ax_r 0), none, none, some (ax_i (x3 ||| ((1 : Int32) <<< ((σ.1 17 (Int32.toNatClampNeg x4)) &&& 31)))), some (ax_i x4), some (ax_i (σ.1 17 (Int32.toNatClampNeg x4))), some (ax_i (σ.1 18 (Int32.toNatClampNeg x4))), some (ax_i (0 : Int32)), some (ax_i (0 : Int32)), none, none] [ax_i (if (¬ (0 : Int32) = 0) then ((0 : Int32) / (0 : Int32)) else (0 : Int32))] σ := by
          refine ax_istore (q := 145) (lv2 := [some (ax_r 0), none, none, some (ax_i (x3 ||| ((1 : Int32) <<< ((σ.1 17 (Int32.toNatClampNeg x4)) &&& 31)))), some (ax_i x4), some (ax_i (σ.1 17 (Int32.toNatClampNeg x4))), some (ax_i (σ.1 18 (Int32.toNatClampNeg x4))), some (ax_i (0 : Int32)), some (ax_i (0 : Int32)), some (ax_i (if (¬ (0 : Int32) = 0) then ((0 : Int32) / (0 : Int32)) else (0 : Int32))), none]) dX12_layStroke_143 rfl (by decide) rfl rfl ?_
          refine ax_aload_n (q := 146) (i := 0) dX12_layStroke_145 rfl rfl rfl ?_
          refine ax_get (q := 149) (k := 0) (j := 33) (v := ax_r 20) dX12_layStroke_146 rfl shM_0 rfl rfl rfl (by decide) fl_X12_74 ?_
          refine ax_iload (q := 151) dX12_layStroke_149 rfl rfl ?_
          refine ax_dup2_11 (q := 152) dX12_layStroke_151 rfl ?_
          refine ax_iald (q := 153) (a := (Int32.toNatClampNeg (σ.1 17 (Int32.toNatClampNeg x4)))) (v := (σ.1 20 (Int32.toNatClampNeg (σ.1 17 (Int32.toNatClampNeg x4))))) dX12_layStroke_152 rfl shM_20 (h7 c1 c2 c3) rfl rfl ?_
          refine ax_iload (q := 155) dX12_layStroke_153 rfl rfl ?_
          refine ax_iload (q := 157) dX12_layStroke_155 rfl rfl ?_
          refine ax_iload (q := 159) dX12_layStroke_157 rfl rfl ?_
          refine ax_imul (q := 160) dX12_layStroke_159 rfl ?_
          refine ax_isub (q := 161) dX12_layStroke_160 rfl ?_
          refine ax_iadd (q := 162) dX12_layStroke_161 rfl ?_
          refine ax_iast (q := 163) (a := (Int32.toNatClampNeg (σ.1 17 (Int32.toNatClampNeg x4)))) dX12_layStroke_162 rfl shM_20 (h7 c1 c2 c3) rfl ?_
          refine ax_iconst (q := 164) dX12_layStroke_163 rfl ki_0 ?_
          refine ax_istore (q := 166) (lv2 := [some (ax_r 0), none, none, some (ax_i (x3 ||| ((1 : Int32) <<< ((σ.1 17 (Int32.toNatClampNeg x4)) &&& 31)))), some (ax_i x4), some (ax_i (σ.1 17 (Int32.toNatClampNeg x4))), some (ax_i (σ.1 18 (Int32.toNatClampNeg x4))), some (ax_i (0 : Int32)), some (ax_i (0 : Int32)), some (ax_i (if (¬ (0 : Int32) = 0) then ((0 : Int32) / (0 : Int32)) else (0 : Int32))), some (ax_i (0 : Int32))]) dX12_layStroke_164 rfl (by decide) rfl rfl ?_
          refine ax_fg (lv2 := [some (ax_r 0), none, none, some (ax_i (x3 ||| ((1 : Int32) <<< ((σ.1 17 (Int32.toNatClampNeg x4)) &&& 31)))), some (ax_i x4), some (ax_i (σ.1 17 (Int32.toNatClampNeg x4))), none, some (ax_i (0 : Int32)), none, some (ax_i (if (¬ (0 : Int32) = 0) then ((0 : Int32) / (0 : Int32)) else (0 : Int32))), some (ax_i (0 : Int32))]) ⟨rfl, rfl, rfl, rfl, rfl, rfl, rfl, trivial⟩ ?_
          exact (k8 c1 c2 c3)
        refine ax_if_ne (tgt := 138) (q := 134) dX12_layStroke_131 (by decide) rfl (fun c4 => ?_) (fun c4 => ?_)
        · refine ax_iload (q := 140) dX12_layStroke_138 rfl rfl ?_
          refine ax_iload (q := 142) dX12_layStroke_140 rfl rfl ?_
          refine ax_idiv (q := 143) dX12_layStroke_142 rfl (h6 c1 c2 c3 c4) ?_
          exact ax_cv (if_pos c4) K5
        · refine ax_iconst (q := 135) dX12_layStroke_134 rfl ki_0 ?_
          refine ax_goto (tgt := 143) dX12_layStroke_135 (by decide) ?_
          exact ax_cv (if_neg c4) K5
set_option maxRecDepth 20000 in
theorem s_X12_layStroke_126 {d : Nat} (hd : 0 ≤ d) {Q : Option ax_V → ax_S → Prop} (σ : ax_S) (x3 : Int32) (x4 : Int32) (x5 : Int32) (x6 : Int32) (x7 : Int32) (rr : Int32) (y0 : Int32) (h1 : (¬ x7 = 0) → ¬ x7 = 0) (h2 : vp_in x5 8) (k3 : ax_W shM (d + 1) mX12_layStroke Q 166 [some (ax_r 0), none, none, some (ax_i x3), some (ax_i x4), some (ax_i x5), none, some (ax_i x7), none, some (ax_i (if (¬ x7 = 0) then ((y0 - rr) / x7) else (0 : Int32))), some (ax_i (0 : Int32))] [] (ax_ui σ 20 (Int32.toNatClampNeg x5) ((σ.1 20 (Int32.toNatClampNeg x5)) + (x6 - ((if (¬ x7 = 0) then ((y0 - rr) / x7) else (0 : Int32)) * x7))))) : ax_W shM (d + 1) mX12_layStroke Q 126 [some (ax_r 0), none, none, some (ax_i x3), some (ax_i x4), some (ax_i x5), some (ax_i x6), some (ax_i x7), none, none, none] [ax_i rr, ax_i y0] σ := by
  refine ax_isub (q := 127) dX12_layStroke_126 rfl ?_
  refine ax_istore (q := 129) (lv2 := [some (ax_r 0), none, none, some (ax_i x3), some (ax_i x4), some (ax_i x5), some (ax_i x6), some (ax_i x7), some (ax_i (y0 - rr)), none, none]) dX12_layStroke_127 rfl (by decide) rfl rfl ?_
  refine ax_iload (q := 131) dX12_layStroke_129 rfl rfl ?_
  have K2 : ax_W shM (d + 1) mX12_layStroke Q 143 [some (ax_r 0), none, none, some (ax_i x3), some (ax_i x4), some (ax_i x5), some (ax_i x6), some (ax_i x7), some (ax_i (y0 - rr)), none, none] [ax_i (if (¬ x7 = 0) then ((y0 - rr) / x7) else (0 : Int32))] σ := by
    refine ax_istore (q := 145) (lv2 := [some (ax_r 0), none, none, some (ax_i x3), some (ax_i x4), some (ax_i x5), some (ax_i x6), some (ax_i x7), some (ax_i (y0 - rr)), some (ax_i (if (¬ x7 = 0) then ((y0 - rr) / x7) else (0 : Int32))), none]) dX12_layStroke_143 rfl (by decide) rfl rfl ?_
    refine ax_aload_n (q := 146) (i := 0) dX12_layStroke_145 rfl rfl rfl ?_
    refine ax_get (q := 149) (k := 0) (j := 33) (v := ax_r 20) dX12_layStroke_146 rfl shM_0 rfl rfl rfl (by decide) fl_X12_74 ?_
    refine ax_iload (q := 151) dX12_layStroke_149 rfl rfl ?_
    refine ax_dup2_11 (q := 152) dX12_layStroke_151 rfl ?_
    refine ax_iald (q := 153) (a := (Int32.toNatClampNeg x5)) (v := (σ.1 20 (Int32.toNatClampNeg x5))) dX12_layStroke_152 rfl shM_20 h2 rfl rfl ?_
    refine ax_iload (q := 155) dX12_layStroke_153 rfl rfl ?_
    refine ax_iload (q := 157) dX12_layStroke_155 rfl rfl ?_
    refine ax_iload (q := 159) dX12_layStroke_157 rfl rfl ?_
    refine ax_imul (q := 160) dX12_layStroke_159 rfl ?_
    refine ax_isub (q := 161) dX12_layStroke_160 rfl ?_
    refine ax_iadd (q := 162) dX12_layStroke_161 rfl ?_
    refine ax_iast (q := 163) (a := (Int32.toNatClampNeg x5)) dX12_layStroke_162 rfl shM_20 h2 rfl ?_
    refine ax_iconst (q := 164) dX12_layStroke_163 rfl ki_0 ?_
    refine ax_istore (q := 166) (lv2 := [some (ax_r 0), none, none, some (ax_i x3), some (ax_i x4), some (ax_i x5), some (ax_i x6), some (ax_i x7), some (ax_i (y0 - rr)), some (ax_i (if (¬ x7 = 0) then ((y0 - rr) / x7) else (0 : Int32))), some (ax_i (0 : Int32))]) dX12_layStroke_164 rfl (by decide) rfl rfl ?_
    refine ax_fg (lv2 := [some (ax_r 0), none, none, some (ax_i x3), some (ax_i x4), some (ax_i x5), none, some (ax_i x7), none, some (ax_i (if (¬ x7 = 0) then ((y0 - rr) / x7) else (0 : Int32))), some (ax_i (0 : Int32))]) ⟨rfl, rfl, rfl, rfl, rfl, rfl, rfl, trivial⟩ ?_
    exact k3
  refine ax_if_ne (tgt := 138) (q := 134) dX12_layStroke_131 (by decide) rfl (fun c1 => ?_) (fun c1 => ?_)
  · refine ax_iload (q := 140) dX12_layStroke_138 rfl rfl ?_
    refine ax_iload (q := 142) dX12_layStroke_140 rfl rfl ?_
    refine ax_idiv (q := 143) dX12_layStroke_142 rfl (h1 c1) ?_
    exact ax_cv (if_pos c1) K2
  · refine ax_iconst (q := 135) dX12_layStroke_134 rfl ki_0 ?_
    refine ax_goto (tgt := 143) dX12_layStroke_135 (by decide) ?_
    exact ax_cv (if_neg c1) K2
set_option maxRecDepth 20000 in
theorem s_X12_layStroke_166 {d : Nat} (hd : 2 ≤ d) {Q : Option ax_V → ax_S → Prop} (σ : ax_S) (x3 : Int32) (x4 : Int32) (x5 : Int32) (x7 : Int32) (x9 : Int32) (x10 : Int32) (k1 : ((σ.1 15 84) ≤ x10) → ax_W shM (d + 1) mX12_layStroke Q 43 [some (ax_r 0), none, none, some (ax_i x3), some (ax_i (x4 + (1 : Int32))), none, none, none, none, none, none] [] σ) (k2 : (¬ ((σ.1 15 84) ≤ x10)) → (x7 ≤ 0) → ax_W shM (d + 1) mX12_layStroke Q 43 [some (ax_r 0), none, none, some (ax_i x3), some (ax_i (x4 + (1 : Int32))), none, none, none, none, none, none] [] σ) (h3 : (¬ ((σ.1 15 84) ≤ x10)) → (¬ (x7 ≤ 0)) → vp_in x4 36) (k4 : (¬ ((σ.1 15 84) ≤ x10)) → (¬ (x7 ≤ 0)) → (x10 = (σ.1 19 (Int32.toNatClampNeg x4))) → ax_W shM (d + 1) mX12_layStroke Q 166 [some (ax_r 0), none, none, some (ax_i x3), some (ax_i x4), some (ax_i x5), none, some (ax_i x7), none, some (ax_i x9), some (ax_i (x10 + (1 : Int32)))] [] σ) (h5 : (¬ ((σ.1 15 84) ≤ x10)) → (¬ (x7 ≤ 0)) → (¬ (x10 = (σ.1 19 (Int32.toNatClampNeg x4)))) → vp_in (((16 : Int32) + ((4 : Int32) * x10)) + (3 : Int32)) 268) (h6 : (¬ ((σ.1 15 84) ≤ x10)) → (¬ (x7 ≤ 0)) → (¬ (x10 = (σ.1 19 (Int32.toNatClampNeg x4)))) → (¬ (¬ (σ.1 15 (Int32.toNatClampNeg (((16 : Int32) + ((4 : Int32) * x10)) + (3 : Int32)))) = 0)) → vp_in (((16 : Int32) + ((4 : Int32) * x10)) + (2 : Int32)) 268) (k7 : (¬ ((σ.1 15 84) ≤ x10)) → (¬ (x7 ≤ 0)) → (¬ (x10 = (σ.1 19 (Int32.toNatClampNeg x4)))) → (¬ ((¬ (¬ (σ.1 15 (Int32.toNatClampNeg (((16 : Int32) + ((4 : Int32) * x10)) + (3 : Int32)))) = 0)) ∧ (¬ ((9 : Int32) ≤ (σ.1 15 (Int32.toNatClampNeg (((16 : Int32) + ((4 : Int32) * x10)) + (2 : Int32)))))))) → ax_W shM (d + 1) mX12_layStroke Q 166 [some (ax_r 0), none, none, some (ax_i x3), some (ax_i x4), some (ax_i x5), none, some (ax_i x7), none, some (ax_i x9), some (ax_i (x10 + (1 : Int32)))] [] σ) (h8 : (¬ ((σ.1 15 84) ≤ x10)) → (¬ (x7 ≤ 0)) → (¬ (x10 = (σ.1 19 (Int32.toNatClampNeg x4)))) → ((¬ (¬ (σ.1 15 (Int32.toNatClampNeg (((16 : Int32) + ((4 : Int32) * x10)) + (3 : Int32)))) = 0)) ∧ (¬ ((9 : Int32) ≤ (σ.1 15 (Int32.toNatClampNeg (((16 : Int32) + ((4 : Int32) * x10)) + (2 : Int32))))))) → vp_in (((16 : Int32) + ((4 : Int32) * x10)) + (0 : Int32)) 268) (h9 : (¬ ((σ.1 15 84) ≤ x10)) → (¬ (x7 ≤ 0)) → (¬ (x10 = (σ.1 19 (Int32.toNatClampNeg x4)))) → ((¬ (¬ (σ.1 15 (Int32.toNatClampNeg (((16 : Int32) + ((4 : Int32) * x10)) + (3 : Int32)))) = 0)) ∧ (¬ ((9 : Int32) ≤ (σ.1 15 (Int32.toNatClampNeg (((16 : Int32) + ((4 : Int32) * x10)) + (2 : Int32))))))) → (¬ ((σ.1 15 (Int32.toNatClampNeg (((16 : Int32) + ((4 : Int32) * x10)) + (0 : Int32)))) = x5)) → vp_in (((16 : Int32) + ((4 : Int32) * x10)) + (1 : Int32)) 268) (k10 : (¬ ((σ.1 15 84) ≤ x10)) → (¬ (x7 ≤ 0)) → (¬ (x10 = (σ.1 19 (Int32.toNatClampNeg x4)))) → ((¬ (¬ (σ.1 15 (Int32.toNatClampNeg (((16 : Int32) + ((4 : Int32) * x10)) + (3 : Int32)))) = 0)) ∧ (¬ ((9 : Int32) ≤ (σ.1 15 (Int32.toNatClampNeg (((16 : Int32) + ((4 : Int32) * x10)) + (2 : Int32))))))) → (¬ (((σ.1 15 (Int32.toNatClampNeg (((16 : Int32) + ((4 : Int32) * x10)) + (0 : Int32)))) = x5) ∨ (¬ (¬ (σ.1 15 (Int32.toNatClampNeg (((16 : Int32) + ((4 : Int32) * x10)) + (1 : Int32)))) = x5)))) → ax_W shM (d + 1) mX12_layStroke Q 166 [some (ax_r 0), none, none, some (ax_i x3), some (ax_i x4), some (ax_i x5), none, some (ax_i x7), none, some (ax_i x9), some (ax_i (x10 + (1 : Int32)))] [] σ) (k11 : (¬ ((σ.1 15 84) ≤ x10)) → (¬ (x7 ≤ 0)) → (¬ (x10 = (σ.1 19 (Int32.toNatClampNeg x4)))) → ((¬ (¬ (σ.1 15 (Int32.toNatClampNeg (((16 : Int32) + ((4 : Int32) * x10)) + (3 : Int32)))) = 0)) ∧ (¬ ((9 : Int32) ≤ (σ.1 15 (Int32.toNatClampNeg (((16 : Int32) + ((4 : Int32) * x10)) + (2 : Int32))))))) → (((σ.1 15 (Int32.toNatClampNeg (((16 : Int32) + ((4 : Int32) * x10)) + (0 : Int32)))) = x5) ∨ (¬ (¬ (σ.1 15 (Int32.toNatClampNeg (((16 : Int32) + ((4 : Int32) * x10)) + (1 : Int32)))) = x5))) → ax_Ct shM d mX12_goOver [ax_r 0, ax_i x10, ax_i x5, ax_i x9] (fun r u => r = none ∧ ax_W shM (d + 1) mX12_layStroke Q 225 [some (ax_r 0), none, none, some (ax_i x3), some (ax_i x4), some (ax_i x5), none, some (ax_i x7), none, some (ax_i x9), some (ax_i x10)] [] u) σ) : ax_W shM (d + 1) mX12_layStroke Q 166 [some (ax_r 0), none, none, some (ax_i x3), some (ax_i x4), some (ax_i x5), none, some (ax_i x7), none, some (ax_i x9), some (ax_i x10)] [] σ := by
  refine ax_iload (q := 168) dX12_layStroke_166 rfl rfl ?_
  refine ax_aload_n (q := 169) (i := 0) dX12_layStroke_168 rfl rfl rfl ?_
  refine ax_get (q := 172) (k := 0) (j := 25) (v := ax_r 15) dX12_layStroke_169 rfl shM_0 rfl rfl rfl (by decide) fl_X12_52 ?_
  refine ax_bipush (q := 174) dX12_layStroke_172 rfl kb_84 ?_
  refine ax_iald (q := 175) (a := 84) (v := (σ.1 15 84)) dX12_layStroke_174 rfl shM_15 (ax_inl 84 268 (by decide) (by decide)) rfl rfl ?_
  refine ax_icmp_ge (tgt := 231) (q := 178) dX12_layStroke_175 (by decide) rfl (fun c1 => ?_) (fun c1 => ?_)
  · refine ax_iincK (q := 234) (lv2 := [some (ax_r 0), none, none, some (ax_i x3), some (ax_i (x4 + (1 : Int32))), some (ax_i x5), none, some (ax_i x7), none, some (ax_i x9), some (ax_i x10)]) dX12_layStroke_231 rfl rfl ki_1 (by decide) rfl rfl ?_
    refine ax_goto (tgt := 43) dX12_layStroke_234 (by decide) ?_
    refine ax_fg (lv2 := [some (ax_r 0), none, none, some (ax_i x3), some (ax_i (x4 + (1 : Int32))), none, none, none, none, none, none]) ⟨rfl, rfl, rfl, trivial⟩ ?_
    exact (k1 c1)
  · refine ax_iload (q := 180) dX12_layStroke_178 rfl rfl ?_
    refine ax_if_le (tgt := 231) (q := 183) dX12_layStroke_180 (by decide) rfl (fun c2 => ?_) (fun c2 => ?_)
    · refine ax_iincK (q := 234) (lv2 := [some (ax_r 0), none, none, some (ax_i x3), some (ax_i (x4 + (1 : Int32))), some (ax_i x5), none, some (ax_i x7), none, some (ax_i x9), some (ax_i x10)]) dX12_layStroke_231 rfl rfl ki_1 (by decide) rfl rfl ?_
      refine ax_goto (tgt := 43) dX12_layStroke_234 (by decide) ?_
      refine ax_fg (lv2 := [some (ax_r 0), none, none, some (ax_i x3), some (ax_i (x4 + (1 : Int32))), none, none, none, none, none, none]) ⟨rfl, rfl, rfl, trivial⟩ ?_
      exact (k2 c1 c2)
    · refine ax_iload (q := 185) dX12_layStroke_183 rfl rfl ?_
      refine ax_aload_n (q := 186) (i := 0) dX12_layStroke_185 rfl rfl rfl ?_
      refine ax_get (q := 189) (k := 0) (j := 32) (v := ax_r 19) dX12_layStroke_186 rfl shM_0 rfl rfl rfl (by decide) fl_X12_71 ?_
      refine ax_iload (q := 191) dX12_layStroke_189 rfl rfl ?_
      refine ax_iald (q := 192) (a := (Int32.toNatClampNeg x4)) (v := (σ.1 19 (Int32.toNatClampNeg x4))) dX12_layStroke_191 rfl shM_19 (h3 c1 c2) rfl rfl ?_
      refine ax_icmp_eq (tgt := 225) (q := 195) dX12_layStroke_192 (by decide) rfl (fun c3 => ?_) (fun c3 => ?_)
      · refine ax_iincK (q := 228) (lv2 := [some (ax_r 0), none, none, some (ax_i x3), some (ax_i x4), some (ax_i x5), none, some (ax_i x7), none, some (ax_i x9), some (ax_i (x10 + (1 : Int32)))]) dX12_layStroke_225 rfl rfl ki_1 (by decide) rfl rfl ?_
        refine ax_goto (tgt := 166) dX12_layStroke_228 (by decide) ?_
        exact (k4 c1 c2 c3)
      · refine ax_aload_n (q := 196) (i := 0) dX12_layStroke_195 rfl rfl rfl ?_
        refine ax_iload (q := 198) dX12_layStroke_196 rfl rfl ?_
        refine ax_callVfi (q := 201) (As := [ax_i x10]) (st := []) (x := (if ((¬ (¬ (σ.1 15 (Int32.toNatClampNeg (((16 : Int32) + ((4 : Int32) * x10)) + (3 : Int32)))) = 0)) ∧ (¬ ((9 : Int32) ≤ (σ.1 15 (Int32.toNatClampNeg (((16 : Int32) + ((4 : Int32) * x10)) + (2 : Int32))))))) then (1 : Int32) else 0)) (σ2 := σ) dX12_layStroke_198 rfl lk_X12_312 shM_0 rfl rfl rfl rfl (Nat.le_of_ble_eq_true rfl) (f_X12_isLive σ x10 (h5 c1 c2 c3) (h6 c1 c2 c3) (d := d) (by omega)) ?_
        refine ax_if_eqB (tgt := 225) (q := 204) dX12_layStroke_201 (by decide) rfl (fun c4 => ?_) (fun c4 => ?_)
        · refine ax_iincK (q := 228) (lv2 := [some (ax_r 0), none, none, some (ax_i x3), some (ax_i x4), some (ax_i x5), none, some (ax_i x7), none, some (ax_i x9), some (ax_i (x10 + (1 : Int32)))]) dX12_layStroke_225 rfl rfl ki_1 (by decide) rfl rfl ?_
          refine ax_goto (tgt := 166) dX12_layStroke_228 (by decide) ?_
          exact (k7 c1 c2 c3 c4)
        · refine ax_aload_n (q := 205) (i := 0) dX12_layStroke_204 rfl rfl rfl ?_
          refine ax_iload (q := 207) dX12_layStroke_205 rfl rfl ?_
          refine ax_iload (q := 209) dX12_layStroke_207 rfl rfl ?_
          refine ax_callVfi (q := 212) (As := [ax_i x10, ax_i x5]) (st := []) (x := (if (((σ.1 15 (Int32.toNatClampNeg (((16 : Int32) + ((4 : Int32) * x10)) + (0 : Int32)))) = x5) ∨ (¬ (¬ (σ.1 15 (Int32.toNatClampNeg (((16 : Int32) + ((4 : Int32) * x10)) + (1 : Int32)))) = x5))) then (1 : Int32) else 0)) (σ2 := σ) dX12_layStroke_209 rfl lk_X12_315 shM_0 rfl rfl rfl rfl (Nat.le_of_ble_eq_true rfl) (f_X12_isAt σ x10 x5 (h8 c1 c2 c3 c4) (h9 c1 c2 c3 c4) (d := d) (by omega)) ?_
          refine ax_if_eqB (tgt := 225) (q := 215) dX12_layStroke_212 (by decide) rfl (fun c5 => ?_) (fun c5 => ?_)
          · refine ax_iincK (q := 228) (lv2 := [some (ax_r 0), none, none, some (ax_i x3), some (ax_i x4), some (ax_i x5), none, some (ax_i x7), none, some (ax_i x9), some (ax_i (x10 + (1 : Int32)))]) dX12_layStroke_225 rfl rfl ki_1 (by decide) rfl rfl ?_
            refine ax_goto (tgt := 166) dX12_layStroke_228 (by decide) ?_
            exact (k10 c1 c2 c3 c4 c5)
          · refine ax_aload_n (q := 216) (i := 0) dX12_layStroke_215 rfl rfl rfl ?_
            refine ax_iload (q := 218) dX12_layStroke_216 rfl rfl ?_
            refine ax_iload (q := 220) dX12_layStroke_218 rfl rfl ?_
            refine ax_iload (q := 222) dX12_layStroke_220 rfl rfl ?_
            exact ax_callVcv (q := 225) (As := [ax_i x10, ax_i x5, ax_i x9]) (st := []) dX12_layStroke_222 rfl lk_X12_336 shM_0 rfl rfl rfl rfl (Nat.le_of_ble_eq_true rfl) (k11 c1 c2 c3 c4 c5)
set_option maxRecDepth 20000 in
theorem s_X12_layStroke_96 {d : Nat} (hd : 0 ≤ d) {Q : Option ax_V → ax_S → Prop} (σ : ax_S) (x3 : Int32) (x4 : Int32) (x5 : Int32) (x6 : Int32) (rr : Int32) (k1 : (¬ rr = 0) → ax_Ct shM d mX12_keepsBy [ax_r 0, ax_i x5, ax_i x6, ax_i rr] (fun r u => ∃ x : Int32, r = some (ax_i x) ∧ ax_W shM (d + 1) mX12_layStroke Q 126 [some (ax_r 0), none, none, some (ax_i (x3 ||| ((1 : Int32) <<< (x5 &&& 31)))), some (ax_i x4), some (ax_i x5), some (ax_i x6), some (ax_i rr), none, none, none] (ax_i x :: [ax_i x6]) u) σ) (h2 : (¬ (¬ rr = 0)) → (¬ rr = 0) → ¬ rr = 0) (h3 : (¬ (¬ rr = 0)) → vp_in x5 8) (k4 : (¬ (¬ rr = 0)) → ax_W shM (d + 1) mX12_layStroke Q 166 [some (ax_r 0), none, none, some (ax_i (x3 ||| ((1 : Int32) <<< (x5 &&& 31)))), some (ax_i x4), some (ax_i x5), none, some (ax_i rr), none, some (ax_i (if (¬ rr = 0) then ((0 : Int32) / rr) else (0 : Int32))), some (ax_i (0 : Int32))] [] (ax_ui σ 20 (Int32.toNatClampNeg x5) ((σ.1 20 (Int32.toNatClampNeg x5)) + (x6 - ((if (¬ rr = 0) then ((0 : Int32) / rr) else (0 : Int32)) * rr))))) : ax_W shM (d + 1) mX12_layStroke Q 96 [some (ax_r 0), none, none, some (ax_i x3), some (ax_i x4), some (ax_i x5), some (ax_i x6), none, none, none, none] [ax_i rr] σ := by
  refine ax_istore (q := 98) (lv2 := [some (ax_r 0), none, none, some (ax_i x3), some (ax_i x4), some (ax_i x5), some (ax_i x6), some (ax_i rr), none, none, none]) dX12_layStroke_96 rfl (by decide) rfl rfl ?_
  refine ax_iload_n (q := 99) (i := 3) dX12_layStroke_98 rfl rfl rfl ?_
  refine ax_iconst (q := 100) dX12_layStroke_99 rfl ki_1 ?_
  refine ax_iload (q := 102) dX12_layStroke_100 rfl rfl ?_
  refine ax_ishl (q := 103) dX12_layStroke_102 rfl ?_
  refine ax_ior (q := 104) dX12_layStroke_103 rfl ?_
  refine ax_istore_n (q := 105) (i := 3) (lv2 := [some (ax_r 0), none, none, some (ax_i (x3 ||| ((1 : Int32) <<< (x5 &&& 31)))), some (ax_i x4), some (ax_i x5), some (ax_i x6), some (ax_i rr), none, none, none]) dX12_layStroke_104 rfl rfl (by decide) rfl rfl ?_
  refine ax_iload (q := 107) dX12_layStroke_105 rfl rfl ?_
  refine ax_if_ne (tgt := 114) (q := 110) dX12_layStroke_107 (by decide) rfl (fun c1 => ?_) (fun c1 => ?_)
  · refine ax_iload (q := 116) dX12_layStroke_114 rfl rfl ?_
    refine ax_aload_n (q := 117) (i := 0) dX12_layStroke_116 rfl rfl rfl ?_
    refine ax_iload (q := 119) dX12_layStroke_117 rfl rfl ?_
    refine ax_iload (q := 121) dX12_layStroke_119 rfl rfl ?_
    refine ax_iload (q := 123) dX12_layStroke_121 rfl rfl ?_
    exact ax_callVci (q := 126) (As := [ax_i x5, ax_i x6, ax_i rr]) (st := [ax_i x6]) dX12_layStroke_123 rfl lk_X12_333 shM_0 rfl rfl rfl rfl (Nat.le_of_ble_eq_true rfl) (k1 c1)
  · refine ax_iconst (q := 111) dX12_layStroke_110 rfl ki_0 ?_
    refine ax_goto (tgt := 127) dX12_layStroke_111 (by decide) ?_
    refine ax_istore (q := 129) (lv2 := [some (ax_r 0), none, none, some (ax_i (x3 ||| ((1 : Int32) <<< (x5 &&& 31)))), some (ax_i x4), some (ax_i x5), some (ax_i x6), some (ax_i rr), some (ax_i (0 : Int32)), none, none]) dX12_layStroke_127 rfl (by decide) rfl rfl ?_
    refine ax_iload (q := 131) dX12_layStroke_129 rfl rfl ?_
    have K3 : ax_W shM (d + 1) mX12_layStroke Q 143 [some (ax_r 0), none, none, some (ax_i (x3 ||| ((1 : Int32) <<< (x5 &&& 31)))), some (ax_i x4), some (ax_i x5), some (ax_i x6), some (ax_i rr), some (ax_i (0 : Int32)), none, none] [ax_i (if (¬ rr = 0) then ((0 : Int32) / rr) else (0 : Int32))] σ := by
      refine ax_istore (q := 145) (lv2 := [some (ax_r 0), none, none, some (ax_i (x3 ||| ((1 : Int32) <<< (x5 &&& 31)))), some (ax_i x4), some (ax_i x5), some (ax_i x6), some (ax_i rr), some (ax_i (0 : Int32)), some (ax_i (if (¬ rr = 0) then ((0 : Int32) / rr) else (0 : Int32))), none]) dX12_layStroke_143 rfl (by decide) rfl rfl ?_
      refine ax_aload_n (q := 146) (i := 0) dX12_layStroke_145 rfl rfl rfl ?_
      refine ax_get (q := 149) (k := 0) (j := 33) (v := ax_r 20) dX12_layStroke_146 rfl shM_0 rfl rfl rfl (by decide) fl_X12_74 ?_
      refine ax_iload (q := 151) dX12_layStroke_149 rfl rfl ?_
      refine ax_dup2_11 (q := 152) dX12_layStroke_151 rfl ?_
      refine ax_iald (q := 153) (a := (Int32.toNatClampNeg x5)) (v := (σ.1 20 (Int32.toNatClampNeg x5))) dX12_layStroke_152 rfl shM_20 (h3 c1) rfl rfl ?_
      refine ax_iload (q := 155) dX12_layStroke_153 rfl rfl ?_
      refine ax_iload (q := 157) dX12_layStroke_155 rfl rfl ?_
      refine ax_iload (q := 159) dX12_layStroke_157 rfl rfl ?_
      refine ax_imul (q := 160) dX12_layStroke_159 rfl ?_
      refine ax_isub (q := 161) dX12_layStroke_160 rfl ?_
      refine ax_iadd (q := 162) dX12_layStroke_161 rfl ?_
      refine ax_iast (q := 163) (a := (Int32.toNatClampNeg x5)) dX12_layStroke_162 rfl shM_20 (h3 c1) rfl ?_
      refine ax_iconst (q := 164) dX12_layStroke_163 rfl ki_0 ?_
      refine ax_istore (q := 166) (lv2 := [some (ax_r 0), none, none, some (ax_i (x3 ||| ((1 : Int32) <<< (x5 &&& 31)))), some (ax_i x4), some (ax_i x5), some (ax_i x6), some (ax_i rr), some (ax_i (0 : Int32)), some (ax_i (if (¬ rr = 0) then ((0 : Int32) / rr) else (0 : Int32))), some (ax_i (0 : Int32))]) dX12_layStroke_164 rfl (by decide) rfl rfl ?_
      refine ax_fg (lv2 := [some (ax_r 0), none, none, some (ax_i (x3 ||| ((1 : Int32) <<< (x5 &&& 31)))), some (ax_i x4), some (ax_i x5), none, some (ax_i rr), none, some (ax_i (if (¬ rr = 0) then ((0 : Int32) / rr) else (0 : Int32))), some (ax_i (0 : Int32))]) ⟨rfl, rfl, rfl, rfl, rfl, rfl, rfl, trivial⟩ ?_
      exact (k4 c1)
    refine ax_if_ne (tgt := 138) (q := 134) dX12_layStroke_131 (by decide) rfl (fun c2 => ?_) (fun c2 => ?_)
    · refine ax_iload (q := 140) dX12_layStroke_138 rfl rfl ?_
      refine ax_iload (q := 142) dX12_layStroke_140 rfl rfl ?_
      refine ax_idiv (q := 143) dX12_layStroke_142 rfl (h2 c1 c2) ?_
      exact ax_cv (if_pos c2) K3
    · refine ax_iconst (q := 135) dX12_layStroke_134 rfl ki_0 ?_
      refine ax_goto (tgt := 143) dX12_layStroke_135 (by decide) ?_
      exact ax_cv (if_neg c2) K3
set_option maxRecDepth 20000 in
theorem s_X12_layStroke_225 {d : Nat} (hd : 0 ≤ d) {Q : Option ax_V → ax_S → Prop} (σ : ax_S) (x3 : Int32) (x4 : Int32) (x5 : Int32) (x7 : Int32) (x9 : Int32) (x10 : Int32) (k1 : ax_W shM (d + 1) mX12_layStroke Q 166 [some (ax_r 0), none, none, some (ax_i x3), some (ax_i x4), some (ax_i x5), none, some (ax_i x7), none, some (ax_i x9), some (ax_i (x10 + (1 : Int32)))] [] σ) : ax_W shM (d + 1) mX12_layStroke Q 225 [some (ax_r 0), none, none, some (ax_i x3), some (ax_i x4), some (ax_i x5), none, some (ax_i x7), none, some (ax_i x9), some (ax_i x10)] [] σ := by
  refine ax_iincK (q := 228) (lv2 := [some (ax_r 0), none, none, some (ax_i x3), some (ax_i x4), some (ax_i x5), none, some (ax_i x7), none, some (ax_i x9), some (ax_i (x10 + (1 : Int32)))]) dX12_layStroke_225 rfl rfl ki_1 (by decide) rfl rfl ?_
  refine ax_goto (tgt := 166) dX12_layStroke_228 (by decide) ?_
  exact k1
set_option maxRecDepth 20000 in
theorem s_X12_burningBy_0 {d : Nat} (hd : 0 ≤ d) {Q : Option ax_V → ax_S → Prop} (σ : ax_S) (a0 : Int32) (a1 : Int32) (k1 : ax_Ct shM d mX12_layStroke [ax_r 0, ax_i a0, ax_i a1] (fun r u => r = none ∧ ax_W shM (d + 1) mX12_burningBy Q 6 [some (ax_r 0), none, none, none, none] [] u) σ) : ax_W shM (d + 1) mX12_burningBy Q 0 [some (ax_r 0), some (ax_i a0), some (ax_i a1), none, none] [] σ := by
  refine ax_aload_n (q := 1) (i := 0) dX12_burningBy_0 rfl rfl rfl ?_
  refine ax_iload_n (q := 2) (i := 1) dX12_burningBy_1 rfl rfl rfl ?_
  refine ax_iload_n (q := 3) (i := 2) dX12_burningBy_2 rfl rfl rfl ?_
  refine ax_fg (lv2 := [some (ax_r 0), none, none, none, none]) ⟨rfl, trivial⟩ ?_
  exact ax_callVcv (q := 6) (As := [ax_i a0, ax_i a1]) (st := []) dX12_burningBy_3 rfl lk_X12_339 shM_0 rfl rfl rfl rfl (Nat.le_of_ble_eq_true rfl) k1
set_option maxRecDepth 20000 in
theorem s_X12_burningBy_6 {d : Nat} (hd : 0 ≤ d) {Q : Option ax_V → ax_S → Prop} (σ : ax_S)  (k1 : ax_W shM (d + 1) mX12_burningBy Q 11 [some (ax_r 0), none, none, some (ax_i (0 : Int32)), some (ax_i (0 : Int32))] [] σ) : ax_W shM (d + 1) mX12_burningBy Q 6 [some (ax_r 0), none, none, none, none] [] σ := by
  refine ax_iconst (q := 7) dX12_burningBy_6 rfl ki_0 ?_
  refine ax_istore_n (q := 8) (i := 3) (lv2 := [some (ax_r 0), none, none, some (ax_i (0 : Int32)), none]) dX12_burningBy_7 rfl rfl (by decide) rfl rfl ?_
  refine ax_iconst (q := 9) dX12_burningBy_8 rfl ki_0 ?_
  refine ax_istore (q := 11) (lv2 := [some (ax_r 0), none, none, some (ax_i (0 : Int32)), some (ax_i (0 : Int32))]) dX12_burningBy_9 rfl (by decide) rfl rfl ?_
  exact k1
set_option maxRecDepth 20000 in
theorem s_X12_burningBy_11 {d : Nat} (hd : 0 ≤ d) {Q : Option ax_V → ax_S → Prop} (σ : ax_S) (x3 : Int32) (x4 : Int32) (k1 : ((σ.1 0 23) ≤ x4) → Q (some (ax_i x3)) σ) (h2 : (¬ ((σ.1 0 23) ≤ x4)) → vp_in x4 8) (h3 : (¬ ((σ.1 0 23) ≤ x4)) → vp_in ((0 : Int32) + x4) 268) (k4 : (¬ ((σ.1 0 23) ≤ x4)) → ax_W shM (d + 1) mX12_burningBy Q 11 [some (ax_r 0), none, none, some (ax_i (x3 ||| (if ((σ.1 20 (Int32.toNatClampNeg x4)) ≤ (σ.1 15 (Int32.toNatClampNeg ((0 : Int32) + x4)))) then (0 : Int32) else ((1 : Int32) <<< (x4 &&& 31))))), some (ax_i (x4 + (1 : Int32)))] [] σ) : ax_W shM (d + 1) mX12_burningBy Q 11 [some (ax_r 0), none, none, some (ax_i x3), some (ax_i x4)] [] σ := by
  refine ax_iload (q := 13) dX12_burningBy_11 rfl rfl ?_
  refine ax_aload_n (q := 14) (i := 0) dX12_burningBy_13 rfl rfl rfl ?_
  refine ax_get (q := 17) (k := 0) (j := 23) (v := ax_i (σ.1 0 23)) dX12_burningBy_14 rfl shM_0 rfl rfl rfl (by decide) fl_X12_271 ?_
  refine ax_icmp_ge (tgt := 56) (q := 20) dX12_burningBy_17 (by decide) rfl (fun c1 => ?_) (fun c1 => ?_)
  · refine ax_iload_n (q := 57) (i := 3) dX12_burningBy_56 rfl rfl rfl ?_
    exact ax_iret dX12_burningBy_57 rfl rfl (k1 c1)
  · refine ax_iload_n (q := 21) (i := 3) dX12_burningBy_20 rfl rfl rfl ?_
    refine ax_aload_n (q := 22) (i := 0) dX12_burningBy_21 rfl rfl rfl ?_
    refine ax_get (q := 25) (k := 0) (j := 33) (v := ax_r 20) dX12_burningBy_22 rfl shM_0 rfl rfl rfl (by decide) fl_X12_74 ?_
    refine ax_iload (q := 27) dX12_burningBy_25 rfl rfl ?_
    refine ax_iald (q := 28) (a := (Int32.toNatClampNeg x4)) (v := (σ.1 20 (Int32.toNatClampNeg x4))) dX12_burningBy_27 rfl shM_20 (h2 c1) rfl rfl ?_
    refine ax_aload_n (q := 29) (i := 0) dX12_burningBy_28 rfl rfl rfl ?_
    refine ax_get (q := 32) (k := 0) (j := 25) (v := ax_r 15) dX12_burningBy_29 rfl shM_0 rfl rfl rfl (by decide) fl_X12_52 ?_
    refine ax_iconst (q := 33) dX12_burningBy_32 rfl ki_0 ?_
    refine ax_iload (q := 35) dX12_burningBy_33 rfl rfl ?_
    refine ax_iadd (q := 36) dX12_burningBy_35 rfl ?_
    refine ax_iald (q := 37) (a := (Int32.toNatClampNeg ((0 : Int32) + x4))) (v := (σ.1 15 (Int32.toNatClampNeg ((0 : Int32) + x4)))) dX12_burningBy_36 rfl shM_15 (h3 c1) rfl rfl ?_
    have K3 : ax_W shM (d + 1) mX12_burningBy Q 48 [some (ax_r 0), none, none, some (ax_i x3), some (ax_i x4)] [ax_i (if ((σ.1 20 (Int32.toNatClampNeg x4)) ≤ (σ.1 15 (Int32.toNatClampNeg ((0 : Int32) + x4)))) then (0 : Int32) else ((1 : Int32) <<< (x4 &&& 31))), ax_i x3] σ := by
      refine ax_ior (q := 49) dX12_burningBy_48 rfl ?_
      refine ax_istore_n (q := 50) (i := 3) (lv2 := [some (ax_r 0), none, none, some (ax_i (x3 ||| (if ((σ.1 20 (Int32.toNatClampNeg x4)) ≤ (σ.1 15 (Int32.toNatClampNeg ((0 : Int32) + x4)))) then (0 : Int32) else ((1 : Int32) <<< (x4 &&& 31))))), some (ax_i x4)]) dX12_burningBy_49 rfl rfl (by decide) rfl rfl ?_
      refine ax_iincK (q := 53) (lv2 := [some (ax_r 0), none, none, some (ax_i (x3 ||| (if ((σ.1 20 (Int32.toNatClampNeg x4)) ≤ (σ.1 15 (Int32.toNatClampNeg ((0 : Int32) + x4)))) then (0 : Int32) else ((1 : Int32) <<< (x4 &&& 31))))), some (ax_i (x4 + (1 : Int32)))]) dX12_burningBy_50 rfl rfl ki_1 (by decide) rfl rfl ?_
      refine ax_goto (tgt := 11) dX12_burningBy_53 (by decide) ?_
      exact (k4 c1)
    refine ax_icmp_le (tgt := 47) (q := 40) dX12_burningBy_37 (by decide) rfl (fun c2 => ?_) (fun c2 => ?_)
    · refine ax_iconst (q := 48) dX12_burningBy_47 rfl ki_0 ?_
      exact ax_cv (if_pos c2) K3
    · refine ax_iconst (q := 41) dX12_burningBy_40 rfl ki_1 ?_
      refine ax_iload (q := 43) dX12_burningBy_41 rfl rfl ?_
      refine ax_ishl (q := 44) dX12_burningBy_43 rfl ?_
      refine ax_goto (tgt := 48) dX12_burningBy_44 (by decide) ?_
      exact ax_cv (if_neg c2) K3
set_option maxRecDepth 20000 in
theorem s_X12_keepsOf_0 {d : Nat} (hd : 0 ≤ d) {Q : Option ax_V → ax_S → Prop} (σ : ax_S) (a0 : Int32) (a1 : Int32) (a2 : Int32) (k1 : ax_Ct shM d mX12_layStroke [ax_r 0, ax_i a0, ax_i a1] (fun r u => r = none ∧ ax_W shM (d + 1) mX12_keepsOf Q 6 [some (ax_r 0), none, none, some (ax_i a2)] [] u) σ) : ax_W shM (d + 1) mX12_keepsOf Q 0 [some (ax_r 0), some (ax_i a0), some (ax_i a1), some (ax_i a2)] [] σ := by
  refine ax_aload_n (q := 1) (i := 0) dX12_keepsOf_0 rfl rfl rfl ?_
  refine ax_iload_n (q := 2) (i := 1) dX12_keepsOf_1 rfl rfl rfl ?_
  refine ax_iload_n (q := 3) (i := 2) dX12_keepsOf_2 rfl rfl rfl ?_
  refine ax_fg (lv2 := [some (ax_r 0), none, none, some (ax_i a2)]) ⟨rfl, rfl, trivial⟩ ?_
  exact ax_callVcv (q := 6) (As := [ax_i a0, ax_i a1]) (st := []) dX12_keepsOf_3 rfl lk_X12_339 shM_0 rfl rfl rfl rfl (Nat.le_of_ble_eq_true rfl) k1
set_option maxRecDepth 20000 in
theorem s_X12_keepsOf_6 {d : Nat} (hd : 0 ≤ d) {Q : Option ax_V → ax_S → Prop} (σ : ax_S) (x3 : Int32) (h1 : vp_in x3 8) (k2 : Q (some (ax_i (σ.1 20 (Int32.toNatClampNeg x3)))) σ) : ax_W shM (d + 1) mX12_keepsOf Q 6 [some (ax_r 0), none, none, some (ax_i x3)] [] σ := by
  refine ax_aload_n (q := 7) (i := 0) dX12_keepsOf_6 rfl rfl rfl ?_
  refine ax_get (q := 10) (k := 0) (j := 33) (v := ax_r 20) dX12_keepsOf_7 rfl shM_0 rfl rfl rfl (by decide) fl_X12_74 ?_
  refine ax_iload_n (q := 11) (i := 3) dX12_keepsOf_10 rfl rfl rfl ?_
  refine ax_iald (q := 12) (a := (Int32.toNatClampNeg x3)) (v := (σ.1 20 (Int32.toNatClampNeg x3))) dX12_keepsOf_11 rfl shM_20 h1 rfl rfl ?_
  exact ax_iret dX12_keepsOf_12 rfl rfl k2
set_option maxRecDepth 20000 in
theorem f_X12_isForce {sh : List ax_H} (σ : ax_S) (a0 : Int32)  {d : Nat} (hd : 2 ≤ d) : ax_Ct sh d mX12_isForce [ax_i a0] (fun r u => r = some (ax_i (if ((¬ (a0 < (1 : Int32))) ∧ (¬ ((999 : Int32) < a0))) then (1 : Int32) else 0)) ∧ u = σ) σ := by
  obtain ⟨d, rfl⟩ : ∃ e, d = e + 1 := ⟨d - 1, by omega⟩
  refine ax_Ct.of (lv := [some (ax_i a0)]) (by decide +kernel) (fun ad => Nat.le_of_ble_eq_true rfl) (fun ad => rfl) ?_
  refine ax_iload_n (q := 1) (i := 0) dX12_isForce_0 rfl rfl rfl ?_
  refine ax_iconst (q := 2) dX12_isForce_1 rfl ki_1 ?_
  refine ax_sipush (q := 5) dX12_isForce_2 rfl ks_999 ?_
  refine ax_callSfi (q := 8) (As := [ax_i a0, ax_i (1 : Int32), ax_i (999 : Int32)]) (st := []) (x := (if ((¬ (a0 < (1 : Int32))) ∧ (¬ ((999 : Int32) < a0))) then (1 : Int32) else 0)) (σ2 := σ) dX12_isForce_5 rfl lk_X12_223 rfl rfl (Nat.le_of_ble_eq_true rfl) (f_X12_in (sh := sh) σ a0 (1 : Int32) (999 : Int32)  (d := d) (by omega)) ?_
  exact ax_iret dX12_isForce_8 rfl (ax_nb _) ⟨rfl, rfl⟩
set_option maxRecDepth 20000 in
theorem s_X12_house_0 {d : Nat} (hd : 2 ≤ d) {Q : Option ax_V → ax_S → Prop} (σ : ax_S) (a0 : Int32) (a1 : Int32) (h1 : (¬ (if ((¬ ((¬ (a0 < (0 : Int32))) ∧ (¬ (((σ.1 0 23) - (1 : Int32)) < a0)))) ∨ (¬ ((¬ (a1 < (0 : Int32))) ∧ (¬ ((5 : Int32) < a1))))) then (1 : Int32) else 0) = (1 : Int32)) → (¬ a1 = (2 : Int32)) → (¬ a1 = (4 : Int32)) → (¬ a1 = (5 : Int32)) → vp_in (((4 : Int32) * a0) + a1) 32) (k2 : (¬ (if ((¬ ((¬ (a0 < (0 : Int32))) ∧ (¬ (((σ.1 0 23) - (1 : Int32)) < a0)))) ∨ (¬ ((¬ (a1 < (0 : Int32))) ∧ (¬ ((5 : Int32) < a1))))) then (1 : Int32) else 0) = (1 : Int32)) → (¬ a1 = (2 : Int32)) → (¬ a1 = (4 : Int32)) → (¬ a1 = (5 : Int32)) → Q (some (ax_i (σ.1 14 (Int32.toNatClampNeg (((4 : Int32) * a0) + a1))))) (ax_ui σ 0 0 (if ((¬ ((¬ (a0 < (0 : Int32))) ∧ (¬ (((σ.1 0 23) - (1 : Int32)) < a0)))) ∨ (¬ ((¬ (a1 < (0 : Int32))) ∧ (¬ ((5 : Int32) < a1))))) then (1 : Int32) else 0))) (k3 : (¬ (if ((¬ ((¬ (a0 < (0 : Int32))) ∧ (¬ (((σ.1 0 23) - (1 : Int32)) < a0)))) ∨ (¬ ((¬ (a1 < (0 : Int32))) ∧ (¬ ((5 : Int32) < a1))))) then (1 : Int32) else 0) = (1 : Int32)) → (¬ a1 = (2 : Int32)) → (¬ a1 = (4 : Int32)) → (¬ (¬ a1 = (5 : Int32))) → ax_Ct shM d mX12_liveAt [ax_r 0, ax_i a0, ax_i (-1 : Int32)] (fun r u => ∃ x : Int32, r = some (ax_i x) ∧ ax_W shM (d + 1) mX12_house Q 80 [none, none, none] (ax_i x :: []) u) (ax_ui σ 0 0 (if ((¬ ((¬ (a0 < (0 : Int32))) ∧ (¬ (((σ.1 0 23) - (1 : Int32)) < a0)))) ∨ (¬ ((¬ (a1 < (0 : Int32))) ∧ (¬ ((5 : Int32) < a1))))) then (1 : Int32) else 0))) (h4 : (¬ (if ((¬ ((¬ (a0 < (0 : Int32))) ∧ (¬ (((σ.1 0 23) - (1 : Int32)) < a0)))) ∨ (¬ ((¬ (a1 < (0 : Int32))) ∧ (¬ ((5 : Int32) < a1))))) then (1 : Int32) else 0) = (1 : Int32)) → (¬ a1 = (2 : Int32)) → (¬ (¬ a1 = (4 : Int32))) → vp_in ((8 : Int32) + a0) 268) (k5 : (¬ (if ((¬ ((¬ (a0 < (0 : Int32))) ∧ (¬ (((σ.1 0 23) - (1 : Int32)) < a0)))) ∨ (¬ ((¬ (a1 < (0 : Int32))) ∧ (¬ ((5 : Int32) < a1))))) then (1 : Int32) else 0) = (1 : Int32)) → (¬ a1 = (2 : Int32)) → (¬ (¬ a1 = (4 : Int32))) → Q (some (ax_i (σ.1 15 (Int32.toNatClampNeg ((8 : Int32) + a0))))) (ax_ui σ 0 0 (if ((¬ ((¬ (a0 < (0 : Int32))) ∧ (¬ (((σ.1 0 23) - (1 : Int32)) < a0)))) ∨ (¬ ((¬ (a1 < (0 : Int32))) ∧ (¬ ((5 : Int32) < a1))))) then (1 : Int32) else 0))) (h6 : (¬ (if ((¬ ((¬ (a0 < (0 : Int32))) ∧ (¬ (((σ.1 0 23) - (1 : Int32)) < a0)))) ∨ (¬ ((¬ (a1 < (0 : Int32))) ∧ (¬ ((5 : Int32) < a1))))) then (1 : Int32) else 0) = (1 : Int32)) → (¬ (¬ a1 = (2 : Int32))) → vp_in ((0 : Int32) + a0) 268) (k7 : (¬ (if ((¬ ((¬ (a0 < (0 : Int32))) ∧ (¬ (((σ.1 0 23) - (1 : Int32)) < a0)))) ∨ (¬ ((¬ (a1 < (0 : Int32))) ∧ (¬ ((5 : Int32) < a1))))) then (1 : Int32) else 0) = (1 : Int32)) → (¬ (¬ a1 = (2 : Int32))) → Q (some (ax_i (σ.1 15 (Int32.toNatClampNeg ((0 : Int32) + a0))))) (ax_ui σ 0 0 (if ((¬ ((¬ (a0 < (0 : Int32))) ∧ (¬ (((σ.1 0 23) - (1 : Int32)) < a0)))) ∨ (¬ ((¬ (a1 < (0 : Int32))) ∧ (¬ ((5 : Int32) < a1))))) then (1 : Int32) else 0))) (k8 : (¬ (¬ (if ((¬ ((¬ (a0 < (0 : Int32))) ∧ (¬ (((σ.1 0 23) - (1 : Int32)) < a0)))) ∨ (¬ ((¬ (a1 < (0 : Int32))) ∧ (¬ ((5 : Int32) < a1))))) then (1 : Int32) else 0) = (1 : Int32))) → Q (some (ax_i (0 : Int32))) (ax_ui σ 0 0 (if ((¬ ((¬ (a0 < (0 : Int32))) ∧ (¬ (((σ.1 0 23) - (1 : Int32)) < a0)))) ∨ (¬ ((¬ (a1 < (0 : Int32))) ∧ (¬ ((5 : Int32) < a1))))) then (1 : Int32) else 0))) : ax_W shM (d + 1) mX12_house Q 0 [some (ax_r 0), some (ax_i a0), some (ax_i a1)] [] σ := by
  refine ax_aload_n (q := 1) (i := 0) dX12_house_0 rfl rfl rfl ?_
  refine ax_aload_n (q := 2) (i := 0) dX12_house_1 rfl rfl rfl ?_
  refine ax_iload_n (q := 3) (i := 1) dX12_house_2 rfl rfl rfl ?_
  refine ax_callVfi (q := 6) (As := [ax_i a0]) (st := [ax_r 0]) (x := (if ((¬ (a0 < (0 : Int32))) ∧ (¬ (((σ.1 0 23) - (1 : Int32)) < a0))) then (1 : Int32) else 0)) (σ2 := σ) dX12_house_3 rfl lk_X12_342 shM_0 rfl rfl rfl rfl (Nat.le_of_ble_eq_true rfl) (f_X12_isHouse σ a0  (d := d) (by omega)) ?_
  have K3 : ax_W shM (d + 1) mX12_house Q 23 [some (ax_r 0), some (ax_i a0), some (ax_i a1)] [ax_i (if ((¬ ((¬ (a0 < (0 : Int32))) ∧ (¬ (((σ.1 0 23) - (1 : Int32)) < a0)))) ∨ (¬ ((¬ (a1 < (0 : Int32))) ∧ (¬ ((5 : Int32) < a1))))) then (1 : Int32) else 0), ax_r 0] σ := by
    refine ax_puti (q := 26) (k := 0) (j := 0) dX12_house_23 rfl shM_0 rfl rfl (by decide) fl_X12_108 rfl rfl rfl rfl ?_
    refine ax_aload_n (q := 27) (i := 0) dX12_house_26 rfl rfl rfl ?_
    refine ax_get (q := 30) (k := 0) (j := 0) (v := ax_i (if ((¬ ((¬ (a0 < (0 : Int32))) ∧ (¬ (((σ.1 0 23) - (1 : Int32)) < a0)))) ∨ (¬ ((¬ (a1 < (0 : Int32))) ∧ (¬ ((5 : Int32) < a1))))) then (1 : Int32) else 0)) dX12_house_27 rfl shM_0 rfl rfl rfl (by decide) fl_X12_108 ?_
    refine ax_iconst (q := 31) dX12_house_30 rfl ki_1 ?_
    refine ax_icmp_ne (tgt := 36) (q := 34) dX12_house_31 (by decide) rfl (fun c4 => ?_) (fun c4 => ?_)
    · refine ax_iload_n (q := 37) (i := 2) dX12_house_36 rfl rfl rfl ?_
      refine ax_iconst (q := 38) dX12_house_37 rfl ki_2 ?_
      refine ax_icmp_ne (tgt := 52) (q := 41) dX12_house_38 (by decide) rfl (fun c5 => ?_) (fun c5 => ?_)
      · refine ax_iload_n (q := 53) (i := 2) dX12_house_52 rfl rfl rfl ?_
        refine ax_iconst (q := 54) dX12_house_53 rfl ki_4 ?_
        refine ax_icmp_ne (tgt := 69) (q := 57) dX12_house_54 (by decide) rfl (fun c6 => ?_) (fun c6 => ?_)
        · refine ax_iload_n (q := 70) (i := 2) dX12_house_69 rfl rfl rfl ?_
          refine ax_iconst (q := 71) dX12_house_70 rfl ki_5 ?_
          refine ax_icmp_ne (tgt := 83) (q := 74) dX12_house_71 (by decide) rfl (fun c7 => ?_) (fun c7 => ?_)
          · refine ax_aload_n (q := 84) (i := 0) dX12_house_83 rfl rfl rfl ?_
            refine ax_iload_n (q := 85) (i := 1) dX12_house_84 rfl rfl rfl ?_
            refine ax_iload_n (q := 86) (i := 2) dX12_house_85 rfl rfl rfl ?_
            refine ax_callVfi (q := 89) (As := [ax_i a0, ax_i a1]) (st := []) (x := (σ.1 14 (Int32.toNatClampNeg (((4 : Int32) * a0) + a1)))) (σ2 := (ax_ui σ 0 0 (if ((¬ ((¬ (a0 < (0 : Int32))) ∧ (¬ (((σ.1 0 23) - (1 : Int32)) < a0)))) ∨ (¬ ((¬ (a1 < (0 : Int32))) ∧ (¬ ((5 : Int32) < a1))))) then (1 : Int32) else 0))) dX12_house_86 rfl lk_X12_277 shM_0 rfl rfl rfl rfl (Nat.le_of_ble_eq_true rfl) (f_X12_of (ax_ui σ 0 0 (if ((¬ ((¬ (a0 < (0 : Int32))) ∧ (¬ (((σ.1 0 23) - (1 : Int32)) < a0)))) ∨ (¬ ((¬ (a1 < (0 : Int32))) ∧ (¬ ((5 : Int32) < a1))))) then (1 : Int32) else 0)) a0 a1 (h1 c4 c5 c6 c7) (d := d) (by omega)) ?_
            exact ax_iret dX12_house_89 rfl rfl (k2 c4 c5 c6 c7)
          · refine ax_aload_n (q := 75) (i := 0) dX12_house_74 rfl rfl rfl ?_
            refine ax_iload_n (q := 76) (i := 1) dX12_house_75 rfl rfl rfl ?_
            refine ax_iconst (q := 77) dX12_house_76 rfl ki_m1 ?_
            refine ax_fg (lv2 := [none, none, none]) trivial ?_
            exact ax_callVci (q := 80) (As := [ax_i a0, ax_i (-1 : Int32)]) (st := []) dX12_house_77 rfl lk_X12_330 shM_0 rfl rfl rfl rfl (Nat.le_of_ble_eq_true rfl) (k3 c4 c5 c6 c7)
        · refine ax_aload_n (q := 58) (i := 0) dX12_house_57 rfl rfl rfl ?_
          refine ax_get (q := 61) (k := 0) (j := 25) (v := ax_r 15) dX12_house_58 rfl shM_0 rfl rfl rfl (by decide) fl_X12_52 ?_
          refine ax_bipush (q := 63) dX12_house_61 rfl kb_8 ?_
          refine ax_iload_n (q := 64) (i := 1) dX12_house_63 rfl rfl rfl ?_
          refine ax_iadd (q := 65) dX12_house_64 rfl ?_
          refine ax_iald (q := 66) (a := (Int32.toNatClampNeg ((8 : Int32) + a0))) (v := (σ.1 15 (Int32.toNatClampNeg ((8 : Int32) + a0)))) dX12_house_65 rfl shM_15 (h4 c4 c5 c6) rfl rfl ?_
          refine ax_goto (tgt := 89) dX12_house_66 (by decide) ?_
          exact ax_iret dX12_house_89 rfl rfl (k5 c4 c5 c6)
      · refine ax_aload_n (q := 42) (i := 0) dX12_house_41 rfl rfl rfl ?_
        refine ax_get (q := 45) (k := 0) (j := 25) (v := ax_r 15) dX12_house_42 rfl shM_0 rfl rfl rfl (by decide) fl_X12_52 ?_
        refine ax_iconst (q := 46) dX12_house_45 rfl ki_0 ?_
        refine ax_iload_n (q := 47) (i := 1) dX12_house_46 rfl rfl rfl ?_
        refine ax_iadd (q := 48) dX12_house_47 rfl ?_
        refine ax_iald (q := 49) (a := (Int32.toNatClampNeg ((0 : Int32) + a0))) (v := (σ.1 15 (Int32.toNatClampNeg ((0 : Int32) + a0)))) dX12_house_48 rfl shM_15 (h6 c4 c5) rfl rfl ?_
        refine ax_goto (tgt := 89) dX12_house_49 (by decide) ?_
        exact ax_iret dX12_house_89 rfl rfl (k7 c4 c5)
    · refine ax_iconst (q := 35) dX12_house_34 rfl ki_0 ?_
      exact ax_iret dX12_house_35 rfl rfl (k8 c4)
  refine ax_if_eqB (tgt := 22) (q := 9) dX12_house_6 (by decide) rfl (fun c1 => ?_) (fun c1 => ?_)
  · refine ax_iconst (q := 23) dX12_house_22 rfl ki_1 ?_
    exact ax_cv (if_pos (Or.inl c1)) K3
  · refine ax_iload_n (q := 10) (i := 2) dX12_house_9 rfl rfl rfl ?_
    refine ax_iconst (q := 11) dX12_house_10 rfl ki_0 ?_
    refine ax_iconst (q := 12) dX12_house_11 rfl ki_5 ?_
    refine ax_callSfi (q := 15) (As := [ax_i a1, ax_i (0 : Int32), ax_i (5 : Int32)]) (st := [ax_r 0]) (x := (if ((¬ (a1 < (0 : Int32))) ∧ (¬ ((5 : Int32) < a1))) then (1 : Int32) else 0)) (σ2 := σ) dX12_house_12 rfl lk_X12_223 rfl rfl (Nat.le_of_ble_eq_true rfl) (f_X12_in (sh := shM) σ a1 (0 : Int32) (5 : Int32)  (d := d) (by omega)) ?_
    refine ax_if_eqB (tgt := 22) (q := 18) dX12_house_15 (by decide) rfl (fun c2 => ?_) (fun c2 => ?_)
    · refine ax_iconst (q := 23) dX12_house_22 rfl ki_1 ?_
      exact ax_cv (if_pos (Or.inr c2)) K3
    · refine ax_iconst (q := 19) dX12_house_18 rfl ki_0 ?_
      refine ax_goto (tgt := 23) dX12_house_19 (by decide) ?_
      exact ax_cv (if_neg (fun z => z.elim (fun y => y c1) (fun y => y c2))) K3
set_option maxRecDepth 20000 in
theorem s_X12_house_80 {d : Nat} (hd : 0 ≤ d) {Q : Option ax_V → ax_S → Prop} (σ : ax_S) (rr : Int32) (k1 : Q (some (ax_i rr)) σ) : ax_W shM (d + 1) mX12_house Q 80 [none, none, none] [ax_i rr] σ := by
  refine ax_goto (tgt := 89) dX12_house_80 (by decide) ?_
  exact ax_iret dX12_house_89 rfl rfl k1
set_option maxRecDepth 20000 in
theorem f_X12_wire (σ : ax_S) (a0 : Int32) (a1 : Int32) (h1 : vp_in (84 : Int32) 268) (h2 : ((¬ (a0 < (0 : Int32))) ∧ (¬ (((σ.1 15 84) - (1 : Int32)) < a0))) → ((¬ (a1 < (0 : Int32))) ∧ (¬ ((4 : Int32) < a1))) → (¬ a1 = (4 : Int32)) → vp_in (((16 : Int32) + ((4 : Int32) * a0)) + a1) 268) (h3 : ((¬ (a0 < (0 : Int32))) ∧ (¬ (((σ.1 15 84) - (1 : Int32)) < a0))) → ((¬ (a1 < (0 : Int32))) ∧ (¬ ((4 : Int32) < a1))) → (¬ (¬ a1 = (4 : Int32))) → vp_in (((16 : Int32) + ((4 : Int32) * a0)) + (3 : Int32)) 268) (h4 : ((¬ (a0 < (0 : Int32))) ∧ (¬ (((σ.1 15 84) - (1 : Int32)) < a0))) → ((¬ (a1 < (0 : Int32))) ∧ (¬ ((4 : Int32) < a1))) → (¬ (¬ a1 = (4 : Int32))) → (¬ (¬ (σ.1 15 (Int32.toNatClampNeg (((16 : Int32) + ((4 : Int32) * a0)) + (3 : Int32)))) = 0)) → vp_in (((16 : Int32) + ((4 : Int32) * a0)) + (2 : Int32)) 268) {d : Nat} (hd : 3 ≤ d) : ax_Ct shM d mX12_wire [ax_r 0, ax_i a0, ax_i a1] (fun r u => r = some (ax_i (if (¬ ((¬ (a0 < (0 : Int32))) ∧ (¬ (((σ.1 15 84) - (1 : Int32)) < a0)))) then (-1 : Int32) else (if ((¬ (a1 < (0 : Int32))) ∧ (¬ ((4 : Int32) < a1))) then (if (¬ a1 = (4 : Int32)) then (σ.1 15 (Int32.toNatClampNeg (((16 : Int32) + ((4 : Int32) * a0)) + a1))) else (if (¬ ((¬ (¬ (σ.1 15 (Int32.toNatClampNeg (((16 : Int32) + ((4 : Int32) * a0)) + (3 : Int32)))) = 0)) ∧ (¬ ((9 : Int32) ≤ (σ.1 15 (Int32.toNatClampNeg (((16 : Int32) + ((4 : Int32) * a0)) + (2 : Int32)))))))) then (0 : Int32) else (1 : Int32))) else (-1 : Int32)))) ∧ u = σ) σ := by
  obtain ⟨d, rfl⟩ : ∃ e, d = e + 1 := ⟨d - 1, by omega⟩
  refine ax_Ct.of (lv := [some (ax_r 0), some (ax_i a0), some (ax_i a1)]) (by decide +kernel) (fun ad => Nat.le_of_ble_eq_true rfl) (fun ad => rfl) ?_
  refine ax_aload_n (q := 1) (i := 0) dX12_wire_0 rfl rfl rfl ?_
  refine ax_iload_n (q := 2) (i := 1) dX12_wire_1 rfl rfl rfl ?_
  refine ax_callVfi (q := 5) (As := [ax_i a0]) (st := []) (x := (if ((¬ (a0 < (0 : Int32))) ∧ (¬ (((σ.1 15 84) - (1 : Int32)) < a0))) then (1 : Int32) else 0)) (σ2 := σ) dX12_wire_2 rfl lk_X12_345 shM_0 rfl rfl rfl rfl (Nat.le_of_ble_eq_true rfl) (f_X12_isWire σ a0 h1 (d := d) (by omega)) ?_
  have K5 : ax_W shM (d + 1) mX12_wire (fun r u => r = some (ax_i (if (¬ ((¬ (a0 < (0 : Int32))) ∧ (¬ (((σ.1 15 84) - (1 : Int32)) < a0)))) then (-1 : Int32) else (if ((¬ (a1 < (0 : Int32))) ∧ (¬ ((4 : Int32) < a1))) then (if (¬ a1 = (4 : Int32)) then (σ.1 15 (Int32.toNatClampNeg (((16 : Int32) + ((4 : Int32) * a0)) + a1))) else (if (¬ ((¬ (¬ (σ.1 15 (Int32.toNatClampNeg (((16 : Int32) + ((4 : Int32) * a0)) + (3 : Int32)))) = 0)) ∧ (¬ ((9 : Int32) ≤ (σ.1 15 (Int32.toNatClampNeg (((16 : Int32) + ((4 : Int32) * a0)) + (2 : Int32)))))))) then (0 : Int32) else (1 : Int32))) else (-1 : Int32)))) ∧ u = σ) 48 [some (ax_r 0), some (ax_i a0), some (ax_i a1)] [ax_i (if (¬ ((¬ (a0 < (0 : Int32))) ∧ (¬ (((σ.1 15 84) - (1 : Int32)) < a0)))) then (-1 : Int32) else (if ((¬ (a1 < (0 : Int32))) ∧ (¬ ((4 : Int32) < a1))) then (if (¬ a1 = (4 : Int32)) then (σ.1 15 (Int32.toNatClampNeg (((16 : Int32) + ((4 : Int32) * a0)) + a1))) else (if (¬ ((¬ (¬ (σ.1 15 (Int32.toNatClampNeg (((16 : Int32) + ((4 : Int32) * a0)) + (3 : Int32)))) = 0)) ∧ (¬ ((9 : Int32) ≤ (σ.1 15 (Int32.toNatClampNeg (((16 : Int32) + ((4 : Int32) * a0)) + (2 : Int32)))))))) then (0 : Int32) else (1 : Int32))) else (-1 : Int32)))] σ := by
    exact ax_iret dX12_wire_48 rfl rfl ⟨rfl, rfl⟩
  refine ax_if_eqB (tgt := 17) (q := 8) dX12_wire_5 (by decide) rfl (fun c1 => ?_) (fun c1 => ?_)
  · refine ax_iconst (q := 18) dX12_wire_17 rfl ki_m1 ?_
    refine ax_goto (tgt := 48) dX12_wire_18 (by decide) ?_
    exact ax_cv (if_pos c1) K5
  · refine ax_iload_n (q := 9) (i := 2) dX12_wire_8 rfl rfl rfl ?_
    refine ax_iconst (q := 10) dX12_wire_9 rfl ki_0 ?_
    refine ax_iconst (q := 11) dX12_wire_10 rfl ki_4 ?_
    refine ax_callSfi (q := 14) (As := [ax_i a1, ax_i (0 : Int32), ax_i (4 : Int32)]) (st := []) (x := (if ((¬ (a1 < (0 : Int32))) ∧ (¬ ((4 : Int32) < a1))) then (1 : Int32) else 0)) (σ2 := σ) dX12_wire_11 rfl lk_X12_223 rfl rfl (Nat.le_of_ble_eq_true rfl) (f_X12_in (sh := shM) σ a1 (0 : Int32) (4 : Int32)  (d := d) (by omega)) ?_
    refine ax_if_neB (tgt := 21) (q := 17) dX12_wire_14 (by decide) rfl (fun c2 => ?_) (fun c2 => ?_)
    · refine ax_iload_n (q := 22) (i := 2) dX12_wire_21 rfl rfl rfl ?_
      refine ax_iconst (q := 23) dX12_wire_22 rfl ki_4 ?_
      refine ax_icmp_ne (tgt := 42) (q := 26) dX12_wire_23 (by decide) rfl (fun c3 => ?_) (fun c3 => ?_)
      · refine ax_aload_n (q := 43) (i := 0) dX12_wire_42 rfl rfl rfl ?_
        refine ax_iload_n (q := 44) (i := 1) dX12_wire_43 rfl rfl rfl ?_
        refine ax_iload_n (q := 45) (i := 2) dX12_wire_44 rfl rfl rfl ?_
        refine ax_callVfi (q := 48) (As := [ax_i a0, ax_i a1]) (st := []) (x := (σ.1 15 (Int32.toNatClampNeg (((16 : Int32) + ((4 : Int32) * a0)) + a1)))) (σ2 := σ) dX12_wire_45 rfl lk_X12_306 shM_0 rfl rfl rfl rfl (Nat.le_of_ble_eq_true rfl) (f_X12_ofWire σ a0 a1 (h2 c1 c2 c3) (d := d) (by omega)) ?_
        exact ax_cv ((if_neg (fun y => y c1)).trans ((if_pos c2).trans (if_pos c3))) K5
      · refine ax_aload_n (q := 27) (i := 0) dX12_wire_26 rfl rfl rfl ?_
        refine ax_iload_n (q := 28) (i := 1) dX12_wire_27 rfl rfl rfl ?_
        refine ax_callVfi (q := 31) (As := [ax_i a0]) (st := []) (x := (if ((¬ (¬ (σ.1 15 (Int32.toNatClampNeg (((16 : Int32) + ((4 : Int32) * a0)) + (3 : Int32)))) = 0)) ∧ (¬ ((9 : Int32) ≤ (σ.1 15 (Int32.toNatClampNeg (((16 : Int32) + ((4 : Int32) * a0)) + (2 : Int32))))))) then (1 : Int32) else 0)) (σ2 := σ) dX12_wire_28 rfl lk_X12_312 shM_0 rfl rfl rfl rfl (Nat.le_of_ble_eq_true rfl) (f_X12_isLive σ a0 (h3 c1 c2 c3) (h4 c1 c2 c3) (d := d) (by omega)) ?_
        refine ax_if_eqB (tgt := 38) (q := 34) dX12_wire_31 (by decide) rfl (fun c4 => ?_) (fun c4 => ?_)
        · refine ax_iconst (q := 39) dX12_wire_38 rfl ki_0 ?_
          refine ax_goto (tgt := 48) dX12_wire_39 (by decide) ?_
          exact ax_cv ((if_neg (fun y => y c1)).trans ((if_pos c2).trans ((if_neg c3).trans (if_pos c4)))) K5
        · refine ax_iconst (q := 35) dX12_wire_34 rfl ki_1 ?_
          refine ax_goto (tgt := 48) dX12_wire_35 (by decide) ?_
          exact ax_cv ((if_neg (fun y => y c1)).trans ((if_pos c2).trans ((if_neg c3).trans (if_neg (fun y => y c4))))) K5
    · refine ax_iconst (q := 18) dX12_wire_17 rfl ki_m1 ?_
      refine ax_goto (tgt := 48) dX12_wire_18 (by decide) ?_
      exact ax_cv ((if_neg (fun y => y c1)).trans (if_neg c2)) K5
set_option maxRecDepth 20000 in
theorem s_X12_law_0 {d : Nat} (hd : 1 ≤ d) {Q : Option ax_V → ax_S → Prop} (σ : ax_S) (a0 : Int32) (k1 : ((¬ (a0 < (-1 : Int32))) ∧ (¬ (((σ.1 0 13) - (1 : Int32)) < a0))) → Q (some (ax_i (1 : Int32))) (ax_ui σ 0 27 a0)) (k2 : (¬ ((¬ (a0 < (-1 : Int32))) ∧ (¬ (((σ.1 0 13) - (1 : Int32)) < a0)))) → Q (some (ax_i (0 : Int32))) σ) : ax_W shM (d + 1) mX12_law Q 0 [some (ax_r 0), some (ax_i a0)] [] σ := by
  refine ax_iload_n (q := 1) (i := 1) dX12_law_0 rfl rfl rfl ?_
  refine ax_iconst (q := 2) dX12_law_1 rfl ki_m1 ?_
  refine ax_aload_n (q := 3) (i := 0) dX12_law_2 rfl rfl rfl ?_
  refine ax_get (q := 6) (k := 0) (j := 13) (v := ax_i (σ.1 0 13)) dX12_law_3 rfl shM_0 rfl rfl rfl (by decide) fl_X12_299 ?_
  refine ax_iconst (q := 7) dX12_law_6 rfl ki_1 ?_
  refine ax_isub (q := 8) dX12_law_7 rfl ?_
  refine ax_callSfi (q := 11) (As := [ax_i a0, ax_i (-1 : Int32), ax_i ((σ.1 0 13) - (1 : Int32))]) (st := []) (x := (if ((¬ (a0 < (-1 : Int32))) ∧ (¬ (((σ.1 0 13) - (1 : Int32)) < a0))) then (1 : Int32) else 0)) (σ2 := σ) dX12_law_8 rfl lk_X12_223 rfl rfl (Nat.le_of_ble_eq_true rfl) (f_X12_in (sh := shM) σ a0 (-1 : Int32) ((σ.1 0 13) - (1 : Int32))  (d := d) (by omega)) ?_
  refine ax_if_neB (tgt := 16) (q := 14) dX12_law_11 (by decide) rfl (fun c1 => ?_) (fun c1 => ?_)
  · refine ax_aload_n (q := 17) (i := 0) dX12_law_16 rfl rfl rfl ?_
    refine ax_iload_n (q := 18) (i := 1) dX12_law_17 rfl rfl rfl ?_
    refine ax_puti (q := 21) (k := 0) (j := 27) dX12_law_18 rfl shM_0 rfl rfl (by decide) fl_X12_58 rfl rfl rfl rfl ?_
    refine ax_iconst (q := 22) dX12_law_21 rfl ki_1 ?_
    exact ax_iret dX12_law_22 rfl rfl (k1 c1)
  · refine ax_iconst (q := 15) dX12_law_14 rfl ki_0 ?_
    exact ax_iret dX12_law_15 rfl rfl (k2 c1)
set_option maxRecDepth 20000 in
theorem s_X12_keep_0 {d : Nat} (hd : 0 ≤ d) {Q : Option ax_V → ax_S → Prop} (σ : ax_S)  (k1 : (¬ (σ.1 0 37) = (40 : Int32)) → ax_W shM (d + 1) mX12_keep Q 54 [some (ax_r 0), some (ax_i (0 : Int32))] [] σ) (k2 : (¬ (¬ (σ.1 0 37) = (40 : Int32))) → ax_W shM (d + 1) mX12_keep Q 13 [some (ax_r 0), some (ax_i (268 : Int32))] [] σ) : ax_W shM (d + 1) mX12_keep Q 0 [some (ax_r 0), none] [] σ := by
  refine ax_aload_n (q := 1) (i := 0) dX12_keep_0 rfl rfl rfl ?_
  refine ax_get (q := 4) (k := 0) (j := 37) (v := ax_i (σ.1 0 37)) dX12_keep_1 rfl shM_0 rfl rfl rfl (by decide) fl_X12_289 ?_
  refine ax_bipush (q := 6) dX12_keep_4 rfl kb_40 ?_
  refine ax_icmp_ne (tgt := 52) (q := 9) dX12_keep_6 (by decide) rfl (fun c1 => ?_) (fun c1 => ?_)
  · refine ax_iconst (q := 53) dX12_keep_52 rfl ki_0 ?_
    refine ax_istore_n (q := 54) (i := 1) (lv2 := [some (ax_r 0), some (ax_i (0 : Int32))]) dX12_keep_53 rfl rfl (by decide) rfl rfl ?_
    exact (k1 c1)
  · refine ax_sipush (q := 12) dX12_keep_9 rfl ks_268 ?_
    refine ax_istore_n (q := 13) (i := 1) (lv2 := [some (ax_r 0), some (ax_i (268 : Int32))]) dX12_keep_12 rfl rfl (by decide) rfl rfl ?_
    exact (k2 c1)
set_option maxRecDepth 20000 in
theorem s_X12_keep_13 {d : Nat} (hd : 0 ≤ d) {Q : Option ax_V → ax_S → Prop} (σ : ax_S) (x1 : Int32) (k1 : ((10720 : Int32) ≤ x1) → ax_W shM (d + 1) mX12_keep Q 54 [some (ax_r 0), some (ax_i (0 : Int32))] [] (ax_ui σ 0 37 ((σ.1 0 37) - (1 : Int32)))) (h2 : (¬ ((10720 : Int32) ≤ x1)) → vp_in x1 10720) (h3 : (¬ ((10720 : Int32) ≤ x1)) → vp_in (x1 - (268 : Int32)) 10720) (k4 : (¬ ((10720 : Int32) ≤ x1)) → ax_W shM (d + 1) mX12_keep Q 13 [some (ax_r 0), some (ax_i (x1 + (1 : Int32)))] [] (ax_ui σ 21 (Int32.toNatClampNeg (x1 - (268 : Int32))) (σ.1 21 (Int32.toNatClampNeg x1)))) : ax_W shM (d + 1) mX12_keep Q 13 [some (ax_r 0), some (ax_i x1)] [] σ := by
  refine ax_iload_n (q := 14) (i := 1) dX12_keep_13 rfl rfl rfl ?_
  refine ax_sipush (q := 17) dX12_keep_14 rfl ks_10720 ?_
  refine ax_icmp_ge (tgt := 42) (q := 20) dX12_keep_17 (by decide) rfl (fun c1 => ?_) (fun c1 => ?_)
  · refine ax_aload_n (q := 43) (i := 0) dX12_keep_42 rfl rfl rfl ?_
    refine ax_dupr (q := 44) dX12_keep_43 rfl ?_
    refine ax_get (q := 47) (k := 0) (j := 37) (v := ax_i (σ.1 0 37)) dX12_keep_44 rfl shM_0 rfl rfl rfl (by decide) fl_X12_289 ?_
    refine ax_iconst (q := 48) dX12_keep_47 rfl ki_1 ?_
    refine ax_isub (q := 49) dX12_keep_48 rfl ?_
    refine ax_puti (q := 52) (k := 0) (j := 37) dX12_keep_49 rfl shM_0 rfl rfl (by decide) fl_X12_289 rfl rfl rfl rfl ?_
    refine ax_iconst (q := 53) dX12_keep_52 rfl ki_0 ?_
    refine ax_istore_n (q := 54) (i := 1) (lv2 := [some (ax_r 0), some (ax_i (0 : Int32))]) dX12_keep_53 rfl rfl (by decide) rfl rfl ?_
    exact (k1 c1)
  · refine ax_aload_n (q := 21) (i := 0) dX12_keep_20 rfl rfl rfl ?_
    refine ax_get (q := 24) (k := 0) (j := 36) (v := ax_r 21) dX12_keep_21 rfl shM_0 rfl rfl rfl (by decide) fl_X12_77 ?_
    refine ax_iload_n (q := 25) (i := 1) dX12_keep_24 rfl rfl rfl ?_
    refine ax_sipush (q := 28) dX12_keep_25 rfl ks_268 ?_
    refine ax_isub (q := 29) dX12_keep_28 rfl ?_
    refine ax_aload_n (q := 30) (i := 0) dX12_keep_29 rfl rfl rfl ?_
    refine ax_get (q := 33) (k := 0) (j := 36) (v := ax_r 21) dX12_keep_30 rfl shM_0 rfl rfl rfl (by decide) fl_X12_77 ?_
    refine ax_iload_n (q := 34) (i := 1) dX12_keep_33 rfl rfl rfl ?_
    refine ax_iald (q := 35) (a := (Int32.toNatClampNeg x1)) (v := (σ.1 21 (Int32.toNatClampNeg x1))) dX12_keep_34 rfl shM_21 (h2 c1) rfl rfl ?_
    refine ax_iast (q := 36) (a := (Int32.toNatClampNeg (x1 - (268 : Int32)))) dX12_keep_35 rfl shM_21 (h3 c1) rfl ?_
    refine ax_iincK (q := 39) (lv2 := [some (ax_r 0), some (ax_i (x1 + (1 : Int32)))]) dX12_keep_36 rfl rfl ki_1 (by decide) rfl rfl ?_
    refine ax_goto (tgt := 13) dX12_keep_39 (by decide) ?_
    exact (k4 c1)
set_option maxRecDepth 20000 in
theorem s_X12_keep_54 {d : Nat} (hd : 0 ≤ d) {Q : Option ax_V → ax_S → Prop} (σ : ax_S) (x1 : Int32) (k1 : ((268 : Int32) ≤ x1) → Q none (ax_ui σ 0 37 ((σ.1 0 37) + (1 : Int32)))) (h2 : (¬ ((268 : Int32) ≤ x1)) → vp_in x1 268) (h3 : (¬ ((268 : Int32) ≤ x1)) → vp_in (((268 : Int32) * (σ.1 0 37)) + x1) 10720) (k4 : (¬ ((268 : Int32) ≤ x1)) → ax_W shM (d + 1) mX12_keep Q 54 [some (ax_r 0), some (ax_i (x1 + (1 : Int32)))] [] (ax_ui σ 21 (Int32.toNatClampNeg (((268 : Int32) * (σ.1 0 37)) + x1)) (σ.1 15 (Int32.toNatClampNeg x1)))) : ax_W shM (d + 1) mX12_keep Q 54 [some (ax_r 0), some (ax_i x1)] [] σ := by
  refine ax_iload_n (q := 55) (i := 1) dX12_keep_54 rfl rfl rfl ?_
  refine ax_sipush (q := 58) dX12_keep_55 rfl ks_268 ?_
  refine ax_icmp_ge (tgt := 88) (q := 61) dX12_keep_58 (by decide) rfl (fun c1 => ?_) (fun c1 => ?_)
  · refine ax_aload_n (q := 89) (i := 0) dX12_keep_88 rfl rfl rfl ?_
    refine ax_dupr (q := 90) dX12_keep_89 rfl ?_
    refine ax_get (q := 93) (k := 0) (j := 37) (v := ax_i (σ.1 0 37)) dX12_keep_90 rfl shM_0 rfl rfl rfl (by decide) fl_X12_289 ?_
    refine ax_iconst (q := 94) dX12_keep_93 rfl ki_1 ?_
    refine ax_iadd (q := 95) dX12_keep_94 rfl ?_
    refine ax_puti (q := 98) (k := 0) (j := 37) dX12_keep_95 rfl shM_0 rfl rfl (by decide) fl_X12_289 rfl rfl rfl rfl ?_
    exact ax_vret dX12_keep_98 rfl (k1 c1)
  · refine ax_aload_n (q := 62) (i := 0) dX12_keep_61 rfl rfl rfl ?_
    refine ax_get (q := 65) (k := 0) (j := 36) (v := ax_r 21) dX12_keep_62 rfl shM_0 rfl rfl rfl (by decide) fl_X12_77 ?_
    refine ax_sipush (q := 68) dX12_keep_65 rfl ks_268 ?_
    refine ax_aload_n (q := 69) (i := 0) dX12_keep_68 rfl rfl rfl ?_
    refine ax_get (q := 72) (k := 0) (j := 37) (v := ax_i (σ.1 0 37)) dX12_keep_69 rfl shM_0 rfl rfl rfl (by decide) fl_X12_289 ?_
    refine ax_imul (q := 73) dX12_keep_72 rfl ?_
    refine ax_iload_n (q := 74) (i := 1) dX12_keep_73 rfl rfl rfl ?_
    refine ax_iadd (q := 75) dX12_keep_74 rfl ?_
    refine ax_aload_n (q := 76) (i := 0) dX12_keep_75 rfl rfl rfl ?_
    refine ax_get (q := 79) (k := 0) (j := 25) (v := ax_r 15) dX12_keep_76 rfl shM_0 rfl rfl rfl (by decide) fl_X12_52 ?_
    refine ax_iload_n (q := 80) (i := 1) dX12_keep_79 rfl rfl rfl ?_
    refine ax_iald (q := 81) (a := (Int32.toNatClampNeg x1)) (v := (σ.1 15 (Int32.toNatClampNeg x1))) dX12_keep_80 rfl shM_15 (h2 c1) rfl rfl ?_
    refine ax_iast (q := 82) (a := (Int32.toNatClampNeg (((268 : Int32) * (σ.1 0 37)) + x1))) dX12_keep_81 rfl shM_21 (h3 c1) rfl ?_
    refine ax_iincK (q := 85) (lv2 := [some (ax_r 0), some (ax_i (x1 + (1 : Int32)))]) dX12_keep_82 rfl rfl ki_1 (by decide) rfl rfl ?_
    refine ax_goto (tgt := 54) dX12_keep_85 (by decide) ?_
    exact (k4 c1)
set_option maxRecDepth 20000 in
theorem s_X12_isRefused_0 {d : Nat} (hd : 0 ≤ d) {Q : Option ax_V → ax_S → Prop} (σ : ax_S) (a0 : Int32) (k1 : (a0 = (-1 : Int32)) → Q (some (ax_i (if (¬ (a0 = (-1 : Int32))) then (1 : Int32) else 0))) σ) (h2 : (¬ (a0 = (-1 : Int32))) → vp_in a0 5) (k3 : (¬ (a0 = (-1 : Int32))) → Q (some (ax_i (if (¬ (a0 = (-1 : Int32))) then (1 : Int32) else 0))) (ax_ui σ 16 (Int32.toNatClampNeg a0) ((σ.1 16 (Int32.toNatClampNeg a0)) + (1 : Int32)))) : ax_W shM (d + 1) mX12_isRefused Q 0 [some (ax_r 0), some (ax_i a0)] [] σ := by
  refine ax_iload_n (q := 1) (i := 1) dX12_isRefused_0 rfl rfl rfl ?_
  refine ax_iconst (q := 2) dX12_isRefused_1 rfl ki_m1 ?_
  refine ax_icmp_eq (tgt := 15) (q := 5) dX12_isRefused_2 (by decide) rfl (fun c1 => ?_) (fun c1 => ?_)
  · refine ax_iload_n (q := 16) (i := 1) dX12_isRefused_15 rfl rfl rfl ?_
    refine ax_iconst (q := 17) dX12_isRefused_16 rfl ki_m1 ?_
    have K3 : ax_W shM (d + 1) mX12_isRefused Q 25 [some (ax_r 0), some (ax_i a0)] [ax_i (if (¬ (a0 = (-1 : Int32))) then (1 : Int32) else 0)] σ := by
      exact ax_iret dX12_isRefused_25 rfl (ax_nb _) (k1 c1)
    refine ax_icmp_eq (tgt := 24) (q := 20) dX12_isRefused_17 (by decide) rfl (fun c2 => ?_) (fun c2 => ?_)
    · refine ax_iconst (q := 25) dX12_isRefused_24 rfl ki_0 ?_
      exact ax_cv (if_neg (fun y => y c2)) K3
    · refine ax_iconst (q := 21) dX12_isRefused_20 rfl ki_1 ?_
      refine ax_goto (tgt := 25) dX12_isRefused_21 (by decide) ?_
      exact ax_cv (if_pos c2) K3
  · refine ax_aload_n (q := 6) (i := 0) dX12_isRefused_5 rfl rfl rfl ?_
    refine ax_get (q := 9) (k := 0) (j := 26) (v := ax_r 16) dX12_isRefused_6 rfl shM_0 rfl rfl rfl (by decide) fl_X12_55 ?_
    refine ax_iload_n (q := 10) (i := 1) dX12_isRefused_9 rfl rfl rfl ?_
    refine ax_dup2_11 (q := 11) dX12_isRefused_10 rfl ?_
    refine ax_iald (q := 12) (a := (Int32.toNatClampNeg a0)) (v := (σ.1 16 (Int32.toNatClampNeg a0))) dX12_isRefused_11 rfl shM_16 (h2 c1) rfl rfl ?_
    refine ax_iconst (q := 13) dX12_isRefused_12 rfl ki_1 ?_
    refine ax_iadd (q := 14) dX12_isRefused_13 rfl ?_
    refine ax_iast (q := 15) (a := (Int32.toNatClampNeg a0)) dX12_isRefused_14 rfl shM_16 (h2 c1) rfl ?_
    refine ax_iload_n (q := 16) (i := 1) dX12_isRefused_15 rfl rfl rfl ?_
    refine ax_iconst (q := 17) dX12_isRefused_16 rfl ki_m1 ?_
    have K5 : ax_W shM (d + 1) mX12_isRefused Q 25 [some (ax_r 0), some (ax_i a0)] [ax_i (if (¬ (a0 = (-1 : Int32))) then (1 : Int32) else 0)] (ax_ui σ 16 (Int32.toNatClampNeg a0) ((σ.1 16 (Int32.toNatClampNeg a0)) + (1 : Int32))) := by
      exact ax_iret dX12_isRefused_25 rfl (ax_nb _) (k3 c1)
    refine ax_icmp_eq (tgt := 24) (q := 20) dX12_isRefused_17 (by decide) rfl (fun c4 => ?_) (fun c4 => ?_)
    · refine ax_iconst (q := 25) dX12_isRefused_24 rfl ki_0 ?_
      exact ax_cv (if_neg (fun y => y c4)) K5
    · refine ax_iconst (q := 21) dX12_isRefused_20 rfl ki_1 ?_
      refine ax_goto (tgt := 25) dX12_isRefused_21 (by decide) ?_
      exact ax_cv (if_pos c4) K5
set_option maxRecDepth 20000 in
theorem s_X12_strikeNow_0 {d : Nat} (hd : 0 ≤ d) {Q : Option ax_V → ax_S → Prop} (σ : ax_S) (a0 : Int32) (a1 : Int32) (k1 : ax_Ct shM d mX12_burningBy [ax_r 0, ax_i a0, ax_i a1] (fun r u => ∃ x : Int32, r = some (ax_i x) ∧ ax_W shM (d + 1) mX12_strikeNow Q 6 [some (ax_r 0), some (ax_i a0), some (ax_i a1), none, none] (ax_i x :: []) u) σ) : ax_W shM (d + 1) mX12_strikeNow Q 0 [some (ax_r 0), some (ax_i a0), some (ax_i a1), none, none] [] σ := by
  refine ax_aload_n (q := 1) (i := 0) dX12_strikeNow_0 rfl rfl rfl ?_
  refine ax_iload_n (q := 2) (i := 1) dX12_strikeNow_1 rfl rfl rfl ?_
  refine ax_iload_n (q := 3) (i := 2) dX12_strikeNow_2 rfl rfl rfl ?_
  exact ax_callVci (q := 6) (As := [ax_i a0, ax_i a1]) (st := []) dX12_strikeNow_3 rfl lk_X12_348 shM_0 rfl rfl rfl rfl (Nat.le_of_ble_eq_true rfl) k1
set_option maxRecDepth 20000 in
theorem s_X12_strikeNow_6 {d : Nat} (hd : 0 ≤ d) {Q : Option ax_V → ax_S → Prop} (σ : ax_S) (x1 : Int32) (x2 : Int32) (rr : Int32) (k1 : ax_W shM (d + 1) mX12_strikeNow Q 10 [some (ax_r 0), some (ax_i x1), some (ax_i x2), some (ax_i rr), some (ax_i (0 : Int32))] [] σ) : ax_W shM (d + 1) mX12_strikeNow Q 6 [some (ax_r 0), some (ax_i x1), some (ax_i x2), none, none] [ax_i rr] σ := by
  refine ax_istore_n (q := 7) (i := 3) (lv2 := [some (ax_r 0), some (ax_i x1), some (ax_i x2), some (ax_i rr), none]) dX12_strikeNow_6 rfl rfl (by decide) rfl rfl ?_
  refine ax_iconst (q := 8) dX12_strikeNow_7 rfl ki_0 ?_
  refine ax_istore (q := 10) (lv2 := [some (ax_r 0), some (ax_i x1), some (ax_i x2), some (ax_i rr), some (ax_i (0 : Int32))]) dX12_strikeNow_8 rfl (by decide) rfl rfl ?_
  exact k1
set_option maxRecDepth 20000 in
theorem s_X12_strikeNow_10 {d : Nat} (hd : 1 ≤ d) {Q : Option ax_V → ax_S → Prop} (σ : ax_S) (x1 : Int32) (x2 : Int32) (x3 : Int32) (x4 : Int32) (h1 : ((σ.1 0 23) ≤ x4) → (¬ (σ.1 15 87) = (60 : Int32)) → vp_in ((88 : Int32) + ((3 : Int32) * (σ.1 15 87))) 268) (h2 : ((σ.1 0 23) ≤ x4) → (¬ (σ.1 15 87) = (60 : Int32)) → vp_in (((88 : Int32) + ((3 : Int32) * (σ.1 15 87))) + (1 : Int32)) 268) (h3 : ((σ.1 0 23) ≤ x4) → (¬ (σ.1 15 87) = (60 : Int32)) → vp_in (((88 : Int32) + ((3 : Int32) * (σ.1 15 87))) + (2 : Int32)) 268) (k4 : ((σ.1 0 23) ≤ x4) → (¬ (σ.1 15 87) = (60 : Int32)) → Q (some (ax_i x3)) (ax_ui (ax_ui (ax_ui (ax_ui σ 15 (Int32.toNatClampNeg ((88 : Int32) + ((3 : Int32) * (σ.1 15 87)))) x1) 15 (Int32.toNatClampNeg (((88 : Int32) + ((3 : Int32) * (σ.1 15 87))) + (1 : Int32))) x2) 15 (Int32.toNatClampNeg (((88 : Int32) + ((3 : Int32) * (σ.1 15 87))) + (2 : Int32))) x3) 15 87 (((ax_ui (ax_ui (ax_ui σ 15 (Int32.toNatClampNeg ((88 : Int32) + ((3 : Int32) * (σ.1 15 87)))) x1) 15 (Int32.toNatClampNeg (((88 : Int32) + ((3 : Int32) * (σ.1 15 87))) + (1 : Int32))) x2) 15 (Int32.toNatClampNeg (((88 : Int32) + ((3 : Int32) * (σ.1 15 87))) + (2 : Int32))) x3).1 15 87) + (1 : Int32)))) (k5 : ((σ.1 0 23) ≤ x4) → (¬ (¬ (σ.1 15 87) = (60 : Int32))) → ax_W shM (d + 1) mX12_strikeNow Q 100 [some (ax_r 0), some (ax_i x1), some (ax_i x2), some (ax_i x3), some (ax_i (3 : Int32))] [] σ) (k6 : (¬ ((σ.1 0 23) ≤ x4)) → (¬ (¬ (¬ ((x3 >>> (x4 &&& 31)) &&& (1 : Int32)) = (1 : Int32)))) → ax_W shM (d + 1) mX12_strikeNow Q 10 [some (ax_r 0), some (ax_i x1), some (ax_i x2), some (ax_i x3), some (ax_i (x4 + (1 : Int32)))] [] σ) (h7 : (¬ ((σ.1 0 23) ≤ x4)) → (¬ (¬ ((x3 >>> (x4 &&& 31)) &&& (1 : Int32)) = (1 : Int32))) → vp_in ((8 : Int32) + x4) 268) (h8 : (¬ ((σ.1 0 23) ≤ x4)) → (¬ (¬ ((x3 >>> (x4 &&& 31)) &&& (1 : Int32)) = (1 : Int32))) → vp_in ((0 : Int32) + x4) 268) (k9 : (¬ ((σ.1 0 23) ≤ x4)) → (¬ (¬ ((x3 >>> (x4 &&& 31)) &&& (1 : Int32)) = (1 : Int32))) → ax_W shM (d + 1) mX12_strikeNow Q 10 [some (ax_r 0), some (ax_i x1), some (ax_i x2), some (ax_i x3), some (ax_i (x4 + (1 : Int32)))] [] (ax_ui (ax_ui σ 15 (Int32.toNatClampNeg ((8 : Int32) + x4)) (if ((σ.1 15 (Int32.toNatClampNeg ((8 : Int32) + x4))) + (1 : Int32)) < (99 : Int32) then ((σ.1 15 (Int32.toNatClampNeg ((8 : Int32) + x4))) + (1 : Int32)) else (99 : Int32))) 15 (Int32.toNatClampNeg ((0 : Int32) + x4)) (if (1 : Int32) < (((ax_ui σ 15 (Int32.toNatClampNeg ((8 : Int32) + x4)) (if ((σ.1 15 (Int32.toNatClampNeg ((8 : Int32) + x4))) + (1 : Int32)) < (99 : Int32) then ((σ.1 15 (Int32.toNatClampNeg ((8 : Int32) + x4))) + (1 : Int32)) else (99 : Int32))).1 15 (Int32.toNatClampNeg ((0 : Int32) + x4))) - (1 : Int32)) then (((ax_ui σ 15 (Int32.toNatClampNeg ((8 : Int32) + x4)) (if ((σ.1 15 (Int32.toNatClampNeg ((8 : Int32) + x4))) + (1 : Int32)) < (99 : Int32) then ((σ.1 15 (Int32.toNatClampNeg ((8 : Int32) + x4))) + (1 : Int32)) else (99 : Int32))).1 15 (Int32.toNatClampNeg ((0 : Int32) + x4))) - (1 : Int32)) else (1 : Int32)))) : ax_W shM (d + 1) mX12_strikeNow Q 10 [some (ax_r 0), some (ax_i x1), some (ax_i x2), some (ax_i x3), some (ax_i x4)] [] σ := by
  refine ax_iload (q := 12) dX12_strikeNow_10 rfl rfl ?_
  refine ax_aload_n (q := 13) (i := 0) dX12_strikeNow_12 rfl rfl rfl ?_
  refine ax_get (q := 16) (k := 0) (j := 23) (v := ax_i (σ.1 0 23)) dX12_strikeNow_13 rfl shM_0 rfl rfl rfl (by decide) fl_X12_271 ?_
  refine ax_icmp_ge (tgt := 85) (q := 19) dX12_strikeNow_16 (by decide) rfl (fun c1 => ?_) (fun c1 => ?_)
  · refine ax_aload_n (q := 86) (i := 0) dX12_strikeNow_85 rfl rfl rfl ?_
    refine ax_get (q := 89) (k := 0) (j := 25) (v := ax_r 15) dX12_strikeNow_86 rfl shM_0 rfl rfl rfl (by decide) fl_X12_52 ?_
    refine ax_bipush (q := 91) dX12_strikeNow_89 rfl kb_87 ?_
    refine ax_iald (q := 92) (a := 87) (v := (σ.1 15 87)) dX12_strikeNow_91 rfl shM_15 (ax_inl 87 268 (by decide) (by decide)) rfl rfl ?_
    refine ax_bipush (q := 94) dX12_strikeNow_92 rfl kb_60 ?_
    refine ax_icmp_ne (tgt := 147) (q := 97) dX12_strikeNow_94 (by decide) rfl (fun c2 => ?_) (fun c2 => ?_)
    · refine ax_bipush (q := 149) dX12_strikeNow_147 rfl kb_88 ?_
      refine ax_iconst (q := 150) dX12_strikeNow_149 rfl ki_3 ?_
      refine ax_aload_n (q := 151) (i := 0) dX12_strikeNow_150 rfl rfl rfl ?_
      refine ax_get (q := 154) (k := 0) (j := 25) (v := ax_r 15) dX12_strikeNow_151 rfl shM_0 rfl rfl rfl (by decide) fl_X12_52 ?_
      refine ax_bipush (q := 156) dX12_strikeNow_154 rfl kb_87 ?_
      refine ax_iald (q := 157) (a := 87) (v := (σ.1 15 87)) dX12_strikeNow_156 rfl shM_15 (ax_inl 87 268 (by decide) (by decide)) rfl rfl ?_
      refine ax_imul (q := 158) dX12_strikeNow_157 rfl ?_
      refine ax_iadd (q := 159) dX12_strikeNow_158 rfl ?_
      refine ax_istore (q := 161) (lv2 := [some (ax_r 0), some (ax_i x1), some (ax_i x2), some (ax_i x3), some (ax_i ((88 : Int32) + ((3 : Int32) * (σ.1 15 87))))]) dX12_strikeNow_159 rfl (by decide) rfl rfl ?_
      refine ax_aload_n (q := 162) (i := 0) dX12_strikeNow_161 rfl rfl rfl ?_
      refine ax_get (q := 165) (k := 0) (j := 25) (v := ax_r 15) dX12_strikeNow_162 rfl shM_0 rfl rfl rfl (by decide) fl_X12_52 ?_
      refine ax_iload (q := 167) dX12_strikeNow_165 rfl rfl ?_
      refine ax_iload_n (q := 168) (i := 1) dX12_strikeNow_167 rfl rfl rfl ?_
      refine ax_iast (q := 169) (a := (Int32.toNatClampNeg ((88 : Int32) + ((3 : Int32) * (σ.1 15 87))))) dX12_strikeNow_168 rfl shM_15 (h1 c1 c2) rfl ?_
      refine ax_aload_n (q := 170) (i := 0) dX12_strikeNow_169 rfl rfl rfl ?_
      refine ax_get (q := 173) (k := 0) (j := 25) (v := ax_r 15) dX12_strikeNow_170 rfl shM_0 rfl rfl rfl (by decide) fl_X12_52 ?_
      refine ax_iload (q := 175) dX12_strikeNow_173 rfl rfl ?_
      refine ax_iconst (q := 176) dX12_strikeNow_175 rfl ki_1 ?_
      refine ax_iadd (q := 177) dX12_strikeNow_176 rfl ?_
      refine ax_iload_n (q := 178) (i := 2) dX12_strikeNow_177 rfl rfl rfl ?_
      refine ax_iast (q := 179) (a := (Int32.toNatClampNeg (((88 : Int32) + ((3 : Int32) * (σ.1 15 87))) + (1 : Int32)))) dX12_strikeNow_178 rfl shM_15 (h2 c1 c2) rfl ?_
      refine ax_aload_n (q := 180) (i := 0) dX12_strikeNow_179 rfl rfl rfl ?_
      refine ax_get (q := 183) (k := 0) (j := 25) (v := ax_r 15) dX12_strikeNow_180 rfl shM_0 rfl rfl rfl (by decide) fl_X12_52 ?_
      refine ax_iload (q := 185) dX12_strikeNow_183 rfl rfl ?_
      refine ax_iconst (q := 186) dX12_strikeNow_185 rfl ki_2 ?_
      refine ax_iadd (q := 187) dX12_strikeNow_186 rfl ?_
      refine ax_iload_n (q := 188) (i := 3) dX12_strikeNow_187 rfl rfl rfl ?_
      refine ax_iast (q := 189) (a := (Int32.toNatClampNeg (((88 : Int32) + ((3 : Int32) * (σ.1 15 87))) + (2 : Int32)))) dX12_strikeNow_188 rfl shM_15 (h3 c1 c2) rfl ?_
      refine ax_aload_n (q := 190) (i := 0) dX12_strikeNow_189 rfl rfl rfl ?_
      refine ax_get (q := 193) (k := 0) (j := 25) (v := ax_r 15) dX12_strikeNow_190 rfl shM_0 rfl rfl rfl (by decide) fl_X12_52 ?_
      refine ax_bipush (q := 195) dX12_strikeNow_193 rfl kb_87 ?_
      refine ax_dup2_11 (q := 196) dX12_strikeNow_195 rfl ?_
      refine ax_iald (q := 197) (a := 87) (v := ((ax_ui (ax_ui (ax_ui σ 15 (Int32.toNatClampNeg ((88 : Int32) + ((3 : Int32) * (σ.1 15 87)))) x1) 15 (Int32.toNatClampNeg (((88 : Int32) + ((3 : Int32) * (σ.1 15 87))) + (1 : Int32))) x2) 15 (Int32.toNatClampNeg (((88 : Int32) + ((3 : Int32) * (σ.1 15 87))) + (2 : Int32))) x3).1 15 87)) dX12_strikeNow_196 rfl shM_15 (ax_inl 87 268 (by decide) (by decide)) rfl rfl ?_
      refine ax_iconst (q := 198) dX12_strikeNow_197 rfl ki_1 ?_
      refine ax_iadd (q := 199) dX12_strikeNow_198 rfl ?_
      refine ax_iast (q := 200) (a := 87) dX12_strikeNow_199 rfl shM_15 (ax_inl 87 268 (by decide) (by decide)) rfl ?_
      refine ax_iload_n (q := 201) (i := 3) dX12_strikeNow_200 rfl rfl rfl ?_
      exact ax_iret dX12_strikeNow_201 rfl rfl (k4 c1 c2)
    · refine ax_iconst (q := 98) dX12_strikeNow_97 rfl ki_3 ?_
      refine ax_istore (q := 100) (lv2 := [some (ax_r 0), some (ax_i x1), some (ax_i x2), some (ax_i x3), some (ax_i (3 : Int32))]) dX12_strikeNow_98 rfl (by decide) rfl rfl ?_
      exact (k5 c1 c2)
  · refine ax_iload_n (q := 20) (i := 3) dX12_strikeNow_19 rfl rfl rfl ?_
    refine ax_iload (q := 22) dX12_strikeNow_20 rfl rfl ?_
    refine ax_callSfi (q := 25) (As := [ax_i x3, ax_i x4]) (st := []) (x := (if (¬ (¬ ((x3 >>> (x4 &&& 31)) &&& (1 : Int32)) = (1 : Int32))) then (1 : Int32) else 0)) (σ2 := σ) dX12_strikeNow_22 rfl lk_X12_234 rfl rfl (Nat.le_of_ble_eq_true rfl) (f_X12_has (sh := shM) σ x3 x4  (d := d) (by omega)) ?_
    refine ax_if_eqB (tgt := 79) (q := 28) dX12_strikeNow_25 (by decide) rfl (fun c3 => ?_) (fun c3 => ?_)
    · refine ax_iincK (q := 82) (lv2 := [some (ax_r 0), some (ax_i x1), some (ax_i x2), some (ax_i x3), some (ax_i (x4 + (1 : Int32)))]) dX12_strikeNow_79 rfl rfl ki_1 (by decide) rfl rfl ?_
      refine ax_goto (tgt := 10) dX12_strikeNow_82 (by decide) ?_
      exact (k6 c1 c3)
    · refine ax_aload_n (q := 29) (i := 0) dX12_strikeNow_28 rfl rfl rfl ?_
      refine ax_get (q := 32) (k := 0) (j := 25) (v := ax_r 15) dX12_strikeNow_29 rfl shM_0 rfl rfl rfl (by decide) fl_X12_52 ?_
      refine ax_bipush (q := 34) dX12_strikeNow_32 rfl kb_8 ?_
      refine ax_iload (q := 36) dX12_strikeNow_34 rfl rfl ?_
      refine ax_iadd (q := 37) dX12_strikeNow_36 rfl ?_
      refine ax_bipush (q := 39) dX12_strikeNow_37 rfl kb_99 ?_
      refine ax_aload_n (q := 40) (i := 0) dX12_strikeNow_39 rfl rfl rfl ?_
      refine ax_get (q := 43) (k := 0) (j := 25) (v := ax_r 15) dX12_strikeNow_40 rfl shM_0 rfl rfl rfl (by decide) fl_X12_52 ?_
      refine ax_bipush (q := 45) dX12_strikeNow_43 rfl kb_8 ?_
      refine ax_iload (q := 47) dX12_strikeNow_45 rfl rfl ?_
      refine ax_iadd (q := 48) dX12_strikeNow_47 rfl ?_
      refine ax_iald (q := 49) (a := (Int32.toNatClampNeg ((8 : Int32) + x4))) (v := (σ.1 15 (Int32.toNatClampNeg ((8 : Int32) + x4)))) dX12_strikeNow_48 rfl shM_15 (h7 c1 c3) rfl rfl ?_
      refine ax_iconst (q := 50) dX12_strikeNow_49 rfl ki_1 ?_
      refine ax_iadd (q := 51) dX12_strikeNow_50 rfl ?_
      refine ax_mmin (q := 54) dX12_strikeNow_51 rfl mk_X12_253 (Nat.le_of_ble_eq_true rfl) ?_
      refine ax_iast (q := 55) (a := (Int32.toNatClampNeg ((8 : Int32) + x4))) dX12_strikeNow_54 rfl shM_15 (h7 c1 c3) rfl ?_
      refine ax_aload_n (q := 56) (i := 0) dX12_strikeNow_55 rfl rfl rfl ?_
      refine ax_get (q := 59) (k := 0) (j := 25) (v := ax_r 15) dX12_strikeNow_56 rfl shM_0 rfl rfl rfl (by decide) fl_X12_52 ?_
      refine ax_iconst (q := 60) dX12_strikeNow_59 rfl ki_0 ?_
      refine ax_iload (q := 62) dX12_strikeNow_60 rfl rfl ?_
      refine ax_iadd (q := 63) dX12_strikeNow_62 rfl ?_
      refine ax_iconst (q := 64) dX12_strikeNow_63 rfl ki_1 ?_
      refine ax_aload_n (q := 65) (i := 0) dX12_strikeNow_64 rfl rfl rfl ?_
      refine ax_get (q := 68) (k := 0) (j := 25) (v := ax_r 15) dX12_strikeNow_65 rfl shM_0 rfl rfl rfl (by decide) fl_X12_52 ?_
      refine ax_iconst (q := 69) dX12_strikeNow_68 rfl ki_0 ?_
      refine ax_iload (q := 71) dX12_strikeNow_69 rfl rfl ?_
      refine ax_iadd (q := 72) dX12_strikeNow_71 rfl ?_
      refine ax_iald (q := 73) (a := (Int32.toNatClampNeg ((0 : Int32) + x4))) (v := ((ax_ui σ 15 (Int32.toNatClampNeg ((8 : Int32) + x4)) (if ((σ.1 15 (Int32.toNatClampNeg ((8 : Int32) + x4))) + (1 : Int32)) < (99 : Int32) then ((σ.1 15 (Int32.toNatClampNeg ((8 : Int32) + x4))) + (1 : Int32)) else (99 : Int32))).1 15 (Int32.toNatClampNeg ((0 : Int32) + x4)))) dX12_strikeNow_72 rfl shM_15 (h8 c1 c3) rfl rfl ?_
      refine ax_iconst (q := 74) dX12_strikeNow_73 rfl ki_1 ?_
      refine ax_isub (q := 75) dX12_strikeNow_74 rfl ?_
      refine ax_mmax (q := 78) dX12_strikeNow_75 rfl mk_X12_255 (Nat.le_of_ble_eq_true rfl) ?_
      refine ax_iast (q := 79) (a := (Int32.toNatClampNeg ((0 : Int32) + x4))) dX12_strikeNow_78 rfl shM_15 (h8 c1 c3) rfl ?_
      refine ax_iincK (q := 82) (lv2 := [some (ax_r 0), some (ax_i x1), some (ax_i x2), some (ax_i x3), some (ax_i (x4 + (1 : Int32)))]) dX12_strikeNow_79 rfl rfl ki_1 (by decide) rfl rfl ?_
      refine ax_goto (tgt := 10) dX12_strikeNow_82 (by decide) ?_
      exact (k9 c1 c3)
set_option maxRecDepth 20000 in
theorem s_X12_strikeNow_100 {d : Nat} (hd : 0 ≤ d) {Q : Option ax_V → ax_S → Prop} (σ : ax_S) (x1 : Int32) (x2 : Int32) (x3 : Int32) (x4 : Int32) (h1 : ((180 : Int32) ≤ x4) → vp_in ((88 : Int32) + ((3 : Int32) * ((σ.1 15 87) - (1 : Int32)))) 268) (h2 : ((180 : Int32) ≤ x4) → vp_in (((88 : Int32) + ((3 : Int32) * ((σ.1 15 87) - (1 : Int32)))) + (1 : Int32)) 268) (h3 : ((180 : Int32) ≤ x4) → vp_in (((88 : Int32) + ((3 : Int32) * ((σ.1 15 87) - (1 : Int32)))) + (2 : Int32)) 268) (k4 : ((180 : Int32) ≤ x4) → Q (some (ax_i x3)) (ax_ui (ax_ui (ax_ui (ax_ui (ax_ui σ 15 87 ((σ.1 15 87) - (1 : Int32))) 15 (Int32.toNatClampNeg ((88 : Int32) + ((3 : Int32) * ((σ.1 15 87) - (1 : Int32))))) x1) 15 (Int32.toNatClampNeg (((88 : Int32) + ((3 : Int32) * ((σ.1 15 87) - (1 : Int32)))) + (1 : Int32))) x2) 15 (Int32.toNatClampNeg (((88 : Int32) + ((3 : Int32) * ((σ.1 15 87) - (1 : Int32)))) + (2 : Int32))) x3) 15 87 (((ax_ui (ax_ui (ax_ui (ax_ui σ 15 87 ((σ.1 15 87) - (1 : Int32))) 15 (Int32.toNatClampNeg ((88 : Int32) + ((3 : Int32) * ((σ.1 15 87) - (1 : Int32))))) x1) 15 (Int32.toNatClampNeg (((88 : Int32) + ((3 : Int32) * ((σ.1 15 87) - (1 : Int32)))) + (1 : Int32))) x2) 15 (Int32.toNatClampNeg (((88 : Int32) + ((3 : Int32) * ((σ.1 15 87) - (1 : Int32)))) + (2 : Int32))) x3).1 15 87) + (1 : Int32)))) (h5 : (¬ ((180 : Int32) ≤ x4)) → vp_in ((88 : Int32) + x4) 268) (h6 : (¬ ((180 : Int32) ≤ x4)) → vp_in (((88 : Int32) + x4) - (3 : Int32)) 268) (k7 : (¬ ((180 : Int32) ≤ x4)) → ax_W shM (d + 1) mX12_strikeNow Q 100 [some (ax_r 0), some (ax_i x1), some (ax_i x2), some (ax_i x3), some (ax_i (x4 + (1 : Int32)))] [] (ax_ui σ 15 (Int32.toNatClampNeg (((88 : Int32) + x4) - (3 : Int32))) (σ.1 15 (Int32.toNatClampNeg ((88 : Int32) + x4))))) : ax_W shM (d + 1) mX12_strikeNow Q 100 [some (ax_r 0), some (ax_i x1), some (ax_i x2), some (ax_i x3), some (ax_i x4)] [] σ := by
  refine ax_iload (q := 102) dX12_strikeNow_100 rfl rfl ?_
  refine ax_sipush (q := 105) dX12_strikeNow_102 rfl ks_180 ?_
  refine ax_icmp_ge (tgt := 136) (q := 108) dX12_strikeNow_105 (by decide) rfl (fun c1 => ?_) (fun c1 => ?_)
  · refine ax_aload_n (q := 137) (i := 0) dX12_strikeNow_136 rfl rfl rfl ?_
    refine ax_get (q := 140) (k := 0) (j := 25) (v := ax_r 15) dX12_strikeNow_137 rfl shM_0 rfl rfl rfl (by decide) fl_X12_52 ?_
    refine ax_bipush (q := 142) dX12_strikeNow_140 rfl kb_87 ?_
    refine ax_dup2_11 (q := 143) dX12_strikeNow_142 rfl ?_
    refine ax_iald (q := 144) (a := 87) (v := (σ.1 15 87)) dX12_strikeNow_143 rfl shM_15 (ax_inl 87 268 (by decide) (by decide)) rfl rfl ?_
    refine ax_iconst (q := 145) dX12_strikeNow_144 rfl ki_1 ?_
    refine ax_isub (q := 146) dX12_strikeNow_145 rfl ?_
    refine ax_iast (q := 147) (a := 87) dX12_strikeNow_146 rfl shM_15 (ax_inl 87 268 (by decide) (by decide)) rfl ?_
    refine ax_bipush (q := 149) dX12_strikeNow_147 rfl kb_88 ?_
    refine ax_iconst (q := 150) dX12_strikeNow_149 rfl ki_3 ?_
    refine ax_aload_n (q := 151) (i := 0) dX12_strikeNow_150 rfl rfl rfl ?_
    refine ax_get (q := 154) (k := 0) (j := 25) (v := ax_r 15) dX12_strikeNow_151 rfl shM_0 rfl rfl rfl (by decide) fl_X12_52 ?_
    refine ax_bipush (q := 156) dX12_strikeNow_154 rfl kb_87 ?_
    refine ax_iald (q := 157) (a := 87) (v := ((σ.1 15 87) - (1 : Int32))) dX12_strikeNow_156 rfl shM_15 (ax_inl 87 268 (by decide) (by decide)) rfl rfl ?_
    refine ax_imul (q := 158) dX12_strikeNow_157 rfl ?_
    refine ax_iadd (q := 159) dX12_strikeNow_158 rfl ?_
    refine ax_istore (q := 161) (lv2 := [some (ax_r 0), some (ax_i x1), some (ax_i x2), some (ax_i x3), some (ax_i ((88 : Int32) + ((3 : Int32) * ((σ.1 15 87) - (1 : Int32)))))]) dX12_strikeNow_159 rfl (by decide) rfl rfl ?_
    refine ax_aload_n (q := 162) (i := 0) dX12_strikeNow_161 rfl rfl rfl ?_
    refine ax_get (q := 165) (k := 0) (j := 25) (v := ax_r 15) dX12_strikeNow_162 rfl shM_0 rfl rfl rfl (by decide) fl_X12_52 ?_
    refine ax_iload (q := 167) dX12_strikeNow_165 rfl rfl ?_
    refine ax_iload_n (q := 168) (i := 1) dX12_strikeNow_167 rfl rfl rfl ?_
    refine ax_iast (q := 169) (a := (Int32.toNatClampNeg ((88 : Int32) + ((3 : Int32) * ((σ.1 15 87) - (1 : Int32)))))) dX12_strikeNow_168 rfl shM_15 (h1 c1) rfl ?_
    refine ax_aload_n (q := 170) (i := 0) dX12_strikeNow_169 rfl rfl rfl ?_
    refine ax_get (q := 173) (k := 0) (j := 25) (v := ax_r 15) dX12_strikeNow_170 rfl shM_0 rfl rfl rfl (by decide) fl_X12_52 ?_
    refine ax_iload (q := 175) dX12_strikeNow_173 rfl rfl ?_
    refine ax_iconst (q := 176) dX12_strikeNow_175 rfl ki_1 ?_
    refine ax_iadd (q := 177) dX12_strikeNow_176 rfl ?_
    refine ax_iload_n (q := 178) (i := 2) dX12_strikeNow_177 rfl rfl rfl ?_
    refine ax_iast (q := 179) (a := (Int32.toNatClampNeg (((88 : Int32) + ((3 : Int32) * ((σ.1 15 87) - (1 : Int32)))) + (1 : Int32)))) dX12_strikeNow_178 rfl shM_15 (h2 c1) rfl ?_
    refine ax_aload_n (q := 180) (i := 0) dX12_strikeNow_179 rfl rfl rfl ?_
    refine ax_get (q := 183) (k := 0) (j := 25) (v := ax_r 15) dX12_strikeNow_180 rfl shM_0 rfl rfl rfl (by decide) fl_X12_52 ?_
    refine ax_iload (q := 185) dX12_strikeNow_183 rfl rfl ?_
    refine ax_iconst (q := 186) dX12_strikeNow_185 rfl ki_2 ?_
    refine ax_iadd (q := 187) dX12_strikeNow_186 rfl ?_
    refine ax_iload_n (q := 188) (i := 3) dX12_strikeNow_187 rfl rfl rfl ?_
    refine ax_iast (q := 189) (a := (Int32.toNatClampNeg (((88 : Int32) + ((3 : Int32) * ((σ.1 15 87) - (1 : Int32)))) + (2 : Int32)))) dX12_strikeNow_188 rfl shM_15 (h3 c1) rfl ?_
    refine ax_aload_n (q := 190) (i := 0) dX12_strikeNow_189 rfl rfl rfl ?_
    refine ax_get (q := 193) (k := 0) (j := 25) (v := ax_r 15) dX12_strikeNow_190 rfl shM_0 rfl rfl rfl (by decide) fl_X12_52 ?_
    refine ax_bipush (q := 195) dX12_strikeNow_193 rfl kb_87 ?_
    refine ax_dup2_11 (q := 196) dX12_strikeNow_195 rfl ?_
    refine ax_iald (q := 197) (a := 87) (v := ((ax_ui (ax_ui (ax_ui (ax_ui σ 15 87 ((σ.1 15 87) - (1 : Int32))) 15 (Int32.toNatClampNeg ((88 : Int32) + ((3 : Int32) * ((σ.1 15 87) - (1 : Int32))))) x1) 15 (Int32.toNatClampNeg (((88 : Int32) + ((3 : Int32) * ((σ.1 15 87) - (1 : Int32)))) + (1 : Int32))) x2) 15 (Int32.toNatClampNeg (((88 : Int32) + ((3 : Int32) * ((σ.1 15 87) - (1 : Int32)))) + (2 : Int32))) x3).1 15 87)) dX12_strikeNow_196 rfl shM_15 (ax_inl 87 268 (by decide) (by decide)) rfl rfl ?_
    refine ax_iconst (q := 198) dX12_strikeNow_197 rfl ki_1 ?_
    refine ax_iadd (q := 199) dX12_strikeNow_198 rfl ?_
    refine ax_iast (q := 200) (a := 87) dX12_strikeNow_199 rfl shM_15 (ax_inl 87 268 (by decide) (by decide)) rfl ?_
    refine ax_iload_n (q := 201) (i := 3) dX12_strikeNow_200 rfl rfl rfl ?_
    exact ax_iret dX12_strikeNow_201 rfl rfl (k4 c1)
  · refine ax_aload_n (q := 109) (i := 0) dX12_strikeNow_108 rfl rfl rfl ?_
    refine ax_get (q := 112) (k := 0) (j := 25) (v := ax_r 15) dX12_strikeNow_109 rfl shM_0 rfl rfl rfl (by decide) fl_X12_52 ?_
    refine ax_bipush (q := 114) dX12_strikeNow_112 rfl kb_88 ?_
    refine ax_iload (q := 116) dX12_strikeNow_114 rfl rfl ?_
    refine ax_iadd (q := 117) dX12_strikeNow_116 rfl ?_
    refine ax_iconst (q := 118) dX12_strikeNow_117 rfl ki_3 ?_
    refine ax_isub (q := 119) dX12_strikeNow_118 rfl ?_
    refine ax_aload_n (q := 120) (i := 0) dX12_strikeNow_119 rfl rfl rfl ?_
    refine ax_get (q := 123) (k := 0) (j := 25) (v := ax_r 15) dX12_strikeNow_120 rfl shM_0 rfl rfl rfl (by decide) fl_X12_52 ?_
    refine ax_bipush (q := 125) dX12_strikeNow_123 rfl kb_88 ?_
    refine ax_iload (q := 127) dX12_strikeNow_125 rfl rfl ?_
    refine ax_iadd (q := 128) dX12_strikeNow_127 rfl ?_
    refine ax_iald (q := 129) (a := (Int32.toNatClampNeg ((88 : Int32) + x4))) (v := (σ.1 15 (Int32.toNatClampNeg ((88 : Int32) + x4)))) dX12_strikeNow_128 rfl shM_15 (h5 c1) rfl rfl ?_
    refine ax_iast (q := 130) (a := (Int32.toNatClampNeg (((88 : Int32) + x4) - (3 : Int32)))) dX12_strikeNow_129 rfl shM_15 (h6 c1) rfl ?_
    refine ax_iincK (q := 133) (lv2 := [some (ax_r 0), some (ax_i x1), some (ax_i x2), some (ax_i x3), some (ax_i (x4 + (1 : Int32)))]) dX12_strikeNow_130 rfl rfl ki_1 (by decide) rfl rfl ?_
    refine ax_goto (tgt := 100) dX12_strikeNow_133 (by decide) ?_
    exact (k7 c1)
set_option maxRecDepth 20000 in
theorem s_X12_strike_0 {d : Nat} (hd : 2 ≤ d) {Q : Option ax_V → ax_S → Prop} (σ : ax_S) (a0 : Int32) (a1 : Int32) (k1 : ax_Ct shM d mX12_isRefused [ax_r 0, ax_i (if ((¬ (a0 < (0 : Int32))) ∧ (¬ (((σ.1 0 23) - (1 : Int32)) < a0))) then (if ((¬ (a1 < (1 : Int32))) ∧ (¬ ((999 : Int32) < a1))) then (-1 : Int32) else (1 : Int32)) else (0 : Int32))] (fun r u => ∃ x : Int32, r = some (ax_i x) ∧ ax_W shM (d + 1) mX12_strike Q 28 [some (ax_r 0), some (ax_i a0), some (ax_i a1)] (ax_i x :: []) u) σ) : ax_W shM (d + 1) mX12_strike Q 0 [some (ax_r 0), some (ax_i a0), some (ax_i a1)] [] σ := by
  refine ax_aload_n (q := 1) (i := 0) dX12_strike_0 rfl rfl rfl ?_
  refine ax_aload_n (q := 2) (i := 0) dX12_strike_1 rfl rfl rfl ?_
  refine ax_iload_n (q := 3) (i := 1) dX12_strike_2 rfl rfl rfl ?_
  refine ax_callVfi (q := 6) (As := [ax_i a0]) (st := [ax_r 0]) (x := (if ((¬ (a0 < (0 : Int32))) ∧ (¬ (((σ.1 0 23) - (1 : Int32)) < a0))) then (1 : Int32) else 0)) (σ2 := σ) dX12_strike_3 rfl lk_X12_342 shM_0 rfl rfl rfl rfl (Nat.le_of_ble_eq_true rfl) (f_X12_isHouse σ a0  (d := d) (by omega)) ?_
  have K3 : ax_W shM (d + 1) mX12_strike Q 25 [some (ax_r 0), some (ax_i a0), some (ax_i a1)] [ax_i (if ((¬ (a0 < (0 : Int32))) ∧ (¬ (((σ.1 0 23) - (1 : Int32)) < a0))) then (if ((¬ (a1 < (1 : Int32))) ∧ (¬ ((999 : Int32) < a1))) then (-1 : Int32) else (1 : Int32)) else (0 : Int32)), ax_r 0] σ := by
    exact ax_callVci (q := 28) (As := [ax_i (if ((¬ (a0 < (0 : Int32))) ∧ (¬ (((σ.1 0 23) - (1 : Int32)) < a0))) then (if ((¬ (a1 < (1 : Int32))) ∧ (¬ ((999 : Int32) < a1))) then (-1 : Int32) else (1 : Int32)) else (0 : Int32))]) (st := []) dX12_strike_25 rfl lk_X12_354 shM_0 rfl rfl rfl rfl (Nat.le_of_ble_eq_true rfl) k1
  refine ax_if_neB (tgt := 13) (q := 9) dX12_strike_6 (by decide) rfl (fun c1 => ?_) (fun c1 => ?_)
  · refine ax_iload_n (q := 14) (i := 2) dX12_strike_13 rfl rfl rfl ?_
    refine ax_callSfi (q := 17) (As := [ax_i a1]) (st := [ax_r 0]) (x := (if ((¬ (a1 < (1 : Int32))) ∧ (¬ ((999 : Int32) < a1))) then (1 : Int32) else 0)) (σ2 := σ) dX12_strike_14 rfl lk_X12_351 rfl rfl (Nat.le_of_ble_eq_true rfl) (f_X12_isForce (sh := shM) σ a1  (d := d) (by omega)) ?_
    refine ax_if_neB (tgt := 24) (q := 20) dX12_strike_17 (by decide) rfl (fun c2 => ?_) (fun c2 => ?_)
    · refine ax_iconst (q := 25) dX12_strike_24 rfl ki_m1 ?_
      exact ax_cv ((if_pos c1).trans (if_pos c2)) K3
    · refine ax_iconst (q := 21) dX12_strike_20 rfl ki_1 ?_
      refine ax_goto (tgt := 25) dX12_strike_21 (by decide) ?_
      exact ax_cv ((if_pos c1).trans (if_neg c2)) K3
  · refine ax_iconst (q := 10) dX12_strike_9 rfl ki_0 ?_
    refine ax_goto (tgt := 25) dX12_strike_10 (by decide) ?_
    exact ax_cv (if_neg c1) K3
set_option maxRecDepth 20000 in
theorem s_X12_strike_28 {d : Nat} (hd : 0 ≤ d) {Q : Option ax_V → ax_S → Prop} (σ : ax_S) (x1 : Int32) (x2 : Int32) (rr : Int32) (k1 : (rr = 0) → ax_Ct shM d mX12_keep [ax_r 0] (fun r u => r = none ∧ ax_W shM (d + 1) mX12_strike Q 37 [some (ax_r 0), some (ax_i x1), some (ax_i x2)] [] u) σ) (k2 : (¬ (rr = 0)) → Q (some (ax_i (-1 : Int32))) σ) : ax_W shM (d + 1) mX12_strike Q 28 [some (ax_r 0), some (ax_i x1), some (ax_i x2)] [ax_i rr] σ := by
  refine ax_if_eq (tgt := 33) (q := 31) dX12_strike_28 (by decide) rfl (fun c1 => ?_) (fun c1 => ?_)
  · refine ax_aload_n (q := 34) (i := 0) dX12_strike_33 rfl rfl rfl ?_
    exact ax_callVcv (q := 37) (As := []) (st := []) dX12_strike_34 rfl lk_X12_357 shM_0 rfl rfl rfl rfl (Nat.le_of_ble_eq_true rfl) (k1 c1)
  · refine ax_iconst (q := 32) dX12_strike_31 rfl ki_m1 ?_
    exact ax_iret dX12_strike_32 rfl rfl (k2 c1)
set_option maxRecDepth 20000 in
theorem s_X12_strike_37 {d : Nat} (hd : 0 ≤ d) {Q : Option ax_V → ax_S → Prop} (σ : ax_S) (x1 : Int32) (x2 : Int32) (k1 : ax_Ct shM d mX12_strikeNow [ax_r 0, ax_i x1, ax_i x2] (fun r u => ∃ x : Int32, r = some (ax_i x) ∧ ax_W shM (d + 1) mX12_strike Q 43 [none, none, none] (ax_i x :: []) u) σ) : ax_W shM (d + 1) mX12_strike Q 37 [some (ax_r 0), some (ax_i x1), some (ax_i x2)] [] σ := by
  refine ax_aload_n (q := 38) (i := 0) dX12_strike_37 rfl rfl rfl ?_
  refine ax_iload_n (q := 39) (i := 1) dX12_strike_38 rfl rfl rfl ?_
  refine ax_iload_n (q := 40) (i := 2) dX12_strike_39 rfl rfl rfl ?_
  refine ax_fg (lv2 := [none, none, none]) trivial ?_
  exact ax_callVci (q := 43) (As := [ax_i x1, ax_i x2]) (st := []) dX12_strike_40 rfl lk_X12_360 shM_0 rfl rfl rfl rfl (Nat.le_of_ble_eq_true rfl) k1
set_option maxRecDepth 20000 in
theorem s_X12_strike_43 {d : Nat} (hd : 0 ≤ d) {Q : Option ax_V → ax_S → Prop} (σ : ax_S) (rr : Int32) (k1 : Q (some (ax_i rr)) σ) : ax_W shM (d + 1) mX12_strike Q 43 [none, none, none] [ax_i rr] σ := by
  exact ax_iret dX12_strike_43 rfl rfl k1
set_option maxRecDepth 20000 in
theorem f_X12_priceOf (σ : ax_S) (a0 : Int32) (a1 : Int32) (h1 : vp_in (((4 : Int32) * a0) + (0 : Int32)) 32) (h2 : vp_in (((4 : Int32) * a1) + (0 : Int32)) 32) {d : Nat} (hd : 3 ≤ d) : ax_Ct shM d mX12_priceOf [ax_r 0, ax_i a0, ax_i a1] (fun r u => r = some (ax_i (if (1 : Int32) < (if (0 : Int32) ≤ ((σ.1 14 (Int32.toNatClampNeg (((4 : Int32) * a0) + (0 : Int32)))) - (σ.1 14 (Int32.toNatClampNeg (((4 : Int32) * a1) + (0 : Int32))))) then ((σ.1 14 (Int32.toNatClampNeg (((4 : Int32) * a0) + (0 : Int32)))) - (σ.1 14 (Int32.toNatClampNeg (((4 : Int32) * a1) + (0 : Int32))))) else 0 - ((σ.1 14 (Int32.toNatClampNeg (((4 : Int32) * a0) + (0 : Int32)))) - (σ.1 14 (Int32.toNatClampNeg (((4 : Int32) * a1) + (0 : Int32)))))) then (if (0 : Int32) ≤ ((σ.1 14 (Int32.toNatClampNeg (((4 : Int32) * a0) + (0 : Int32)))) - (σ.1 14 (Int32.toNatClampNeg (((4 : Int32) * a1) + (0 : Int32))))) then ((σ.1 14 (Int32.toNatClampNeg (((4 : Int32) * a0) + (0 : Int32)))) - (σ.1 14 (Int32.toNatClampNeg (((4 : Int32) * a1) + (0 : Int32))))) else 0 - ((σ.1 14 (Int32.toNatClampNeg (((4 : Int32) * a0) + (0 : Int32)))) - (σ.1 14 (Int32.toNatClampNeg (((4 : Int32) * a1) + (0 : Int32)))))) else (1 : Int32))) ∧ u = σ) σ := by
  obtain ⟨d, rfl⟩ : ∃ e, d = e + 1 := ⟨d - 1, by omega⟩
  refine ax_Ct.of (lv := [some (ax_r 0), some (ax_i a0), some (ax_i a1)]) (by decide +kernel) (fun ad => Nat.le_of_ble_eq_true rfl) (fun ad => rfl) ?_
  refine ax_iconst (q := 1) dX12_priceOf_0 rfl ki_1 ?_
  refine ax_aload_n (q := 2) (i := 0) dX12_priceOf_1 rfl rfl rfl ?_
  refine ax_iload_n (q := 3) (i := 1) dX12_priceOf_2 rfl rfl rfl ?_
  refine ax_iload_n (q := 4) (i := 2) dX12_priceOf_3 rfl rfl rfl ?_
  refine ax_callVfi (q := 7) (As := [ax_i a0, ax_i a1]) (st := [ax_i (1 : Int32)]) (x := (if (0 : Int32) ≤ ((σ.1 14 (Int32.toNatClampNeg (((4 : Int32) * a0) + (0 : Int32)))) - (σ.1 14 (Int32.toNatClampNeg (((4 : Int32) * a1) + (0 : Int32))))) then ((σ.1 14 (Int32.toNatClampNeg (((4 : Int32) * a0) + (0 : Int32)))) - (σ.1 14 (Int32.toNatClampNeg (((4 : Int32) * a1) + (0 : Int32))))) else 0 - ((σ.1 14 (Int32.toNatClampNeg (((4 : Int32) * a0) + (0 : Int32)))) - (σ.1 14 (Int32.toNatClampNeg (((4 : Int32) * a1) + (0 : Int32))))))) (σ2 := σ) dX12_priceOf_4 rfl lk_X12_363 shM_0 rfl rfl rfl rfl (Nat.le_of_ble_eq_true rfl) (f_X12_farOf σ a0 a1 h1 h2 (d := d) (by omega)) ?_
  refine ax_mmax (q := 10) dX12_priceOf_7 rfl mk_X12_255 (Nat.le_of_ble_eq_true rfl) ?_
  exact ax_iret dX12_priceOf_10 rfl rfl ⟨rfl, rfl⟩
set_option maxRecDepth 20000 in
theorem s_X12_whyNot_0 {d : Nat} (hd : 2 ≤ d) {Q : Option ax_V → ax_S → Prop} (σ : ax_S) (a0 : Int32) (a1 : Int32) (k1 : (¬ ((¬ (a0 < (0 : Int32))) ∧ (¬ (((σ.1 0 23) - (1 : Int32)) < a0)))) → Q (some (ax_i (0 : Int32))) σ) (k2 : ((¬ (a0 < (0 : Int32))) ∧ (¬ (((σ.1 0 23) - (1 : Int32)) < a0))) → (¬ ((¬ (a1 < (0 : Int32))) ∧ (¬ (((σ.1 0 23) - (1 : Int32)) < a1)))) → Q (some (ax_i (0 : Int32))) σ) (k3 : ((¬ (a0 < (0 : Int32))) ∧ (¬ (((σ.1 0 23) - (1 : Int32)) < a0))) → ((¬ (a1 < (0 : Int32))) ∧ (¬ (((σ.1 0 23) - (1 : Int32)) < a1))) → (¬ a0 = a1) → ax_Ct shM d mX12_areTied [ax_r 0, ax_i a0, ax_i a1] (fun r u => ∃ x : Int32, r = some (ax_i x) ∧ ax_W shM (d + 1) mX12_whyNot Q 29 [some (ax_r 0), some (ax_i a0), some (ax_i a1)] (ax_i x :: []) u) σ) (k4 : ((¬ (a0 < (0 : Int32))) ∧ (¬ (((σ.1 0 23) - (1 : Int32)) < a0))) → ((¬ (a1 < (0 : Int32))) ∧ (¬ (((σ.1 0 23) - (1 : Int32)) < a1))) → (¬ (¬ a0 = a1)) → Q (some (ax_i (0 : Int32))) σ) : ax_W shM (d + 1) mX12_whyNot Q 0 [some (ax_r 0), some (ax_i a0), some (ax_i a1)] [] σ := by
  refine ax_aload_n (q := 1) (i := 0) dX12_whyNot_0 rfl rfl rfl ?_
  refine ax_iload_n (q := 2) (i := 1) dX12_whyNot_1 rfl rfl rfl ?_
  refine ax_callVfi (q := 5) (As := [ax_i a0]) (st := []) (x := (if ((¬ (a0 < (0 : Int32))) ∧ (¬ (((σ.1 0 23) - (1 : Int32)) < a0))) then (1 : Int32) else 0)) (σ2 := σ) dX12_whyNot_2 rfl lk_X12_342 shM_0 rfl rfl rfl rfl (Nat.le_of_ble_eq_true rfl) (f_X12_isHouse σ a0  (d := d) (by omega)) ?_
  refine ax_if_eqB (tgt := 21) (q := 8) dX12_whyNot_5 (by decide) rfl (fun c1 => ?_) (fun c1 => ?_)
  · refine ax_iconst (q := 22) dX12_whyNot_21 rfl ki_0 ?_
    exact ax_iret dX12_whyNot_22 rfl rfl (k1 c1)
  · refine ax_aload_n (q := 9) (i := 0) dX12_whyNot_8 rfl rfl rfl ?_
    refine ax_iload_n (q := 10) (i := 2) dX12_whyNot_9 rfl rfl rfl ?_
    refine ax_callVfi (q := 13) (As := [ax_i a1]) (st := []) (x := (if ((¬ (a1 < (0 : Int32))) ∧ (¬ (((σ.1 0 23) - (1 : Int32)) < a1))) then (1 : Int32) else 0)) (σ2 := σ) dX12_whyNot_10 rfl lk_X12_342 shM_0 rfl rfl rfl rfl (Nat.le_of_ble_eq_true rfl) (f_X12_isHouse σ a1  (d := d) (by omega)) ?_
    refine ax_if_eqB (tgt := 21) (q := 16) dX12_whyNot_13 (by decide) rfl (fun c2 => ?_) (fun c2 => ?_)
    · refine ax_iconst (q := 22) dX12_whyNot_21 rfl ki_0 ?_
      exact ax_iret dX12_whyNot_22 rfl rfl (k2 c1 c2)
    · refine ax_iload_n (q := 17) (i := 1) dX12_whyNot_16 rfl rfl rfl ?_
      refine ax_iload_n (q := 18) (i := 2) dX12_whyNot_17 rfl rfl rfl ?_
      refine ax_icmp_ne (tgt := 23) (q := 21) dX12_whyNot_18 (by decide) rfl (fun c3 => ?_) (fun c3 => ?_)
      · refine ax_aload_n (q := 24) (i := 0) dX12_whyNot_23 rfl rfl rfl ?_
        refine ax_iload_n (q := 25) (i := 1) dX12_whyNot_24 rfl rfl rfl ?_
        refine ax_iload_n (q := 26) (i := 2) dX12_whyNot_25 rfl rfl rfl ?_
        exact ax_callVci (q := 29) (As := [ax_i a0, ax_i a1]) (st := []) dX12_whyNot_26 rfl lk_X12_366 shM_0 rfl rfl rfl rfl (Nat.le_of_ble_eq_true rfl) (k3 c1 c2 c3)
      · refine ax_iconst (q := 22) dX12_whyNot_21 rfl ki_0 ?_
        exact ax_iret dX12_whyNot_22 rfl rfl (k4 c1 c2 c3)
set_option maxRecDepth 20000 in
theorem s_X12_whyNot_29 {d : Nat} (hd : 3 ≤ d) {Q : Option ax_V → ax_S → Prop} (σ : ax_S) (x1 : Int32) (x2 : Int32) (rr : Int32) (h1 : (¬ (¬ rr = 0)) → vp_in (((4 : Int32) * x1) + (3 : Int32)) 32) (h2 : (¬ (¬ rr = 0)) → (¬ (¬ (σ.1 14 (Int32.toNatClampNeg (((4 : Int32) * x1) + (3 : Int32)))) = (2 : Int32))) → vp_in (((4 : Int32) * x2) + (3 : Int32)) 32) (h3 : (¬ (¬ rr = 0)) → (¬ ((¬ (¬ (σ.1 14 (Int32.toNatClampNeg (((4 : Int32) * x1) + (3 : Int32)))) = (2 : Int32))) ∧ (¬ (¬ (σ.1 14 (Int32.toNatClampNeg (((4 : Int32) * x2) + (3 : Int32)))) = (2 : Int32))))) → (¬ (σ.1 15 84) = (16 : Int32)) → vp_in (((4 : Int32) * x1) + (0 : Int32)) 32) (h4 : (¬ (¬ rr = 0)) → (¬ ((¬ (¬ (σ.1 14 (Int32.toNatClampNeg (((4 : Int32) * x1) + (3 : Int32)))) = (2 : Int32))) ∧ (¬ (¬ (σ.1 14 (Int32.toNatClampNeg (((4 : Int32) * x2) + (3 : Int32)))) = (2 : Int32))))) → (¬ (σ.1 15 84) = (16 : Int32)) → vp_in (((4 : Int32) * x2) + (0 : Int32)) 32) (k5 : Q (some (ax_i (if (¬ rr = 0) then (2 : Int32) else (if ((¬ (¬ (σ.1 14 (Int32.toNatClampNeg (((4 : Int32) * x1) + (3 : Int32)))) = (2 : Int32))) ∧ (¬ (¬ (σ.1 14 (Int32.toNatClampNeg (((4 : Int32) * x2) + (3 : Int32)))) = (2 : Int32)))) then (2 : Int32) else (if (¬ (σ.1 15 84) = (16 : Int32)) then (if ((if (1 : Int32) < (if (0 : Int32) ≤ ((σ.1 14 (Int32.toNatClampNeg (((4 : Int32) * x1) + (0 : Int32)))) - (σ.1 14 (Int32.toNatClampNeg (((4 : Int32) * x2) + (0 : Int32))))) then ((σ.1 14 (Int32.toNatClampNeg (((4 : Int32) * x1) + (0 : Int32)))) - (σ.1 14 (Int32.toNatClampNeg (((4 : Int32) * x2) + (0 : Int32))))) else 0 - ((σ.1 14 (Int32.toNatClampNeg (((4 : Int32) * x1) + (0 : Int32)))) - (σ.1 14 (Int32.toNatClampNeg (((4 : Int32) * x2) + (0 : Int32)))))) then (if (0 : Int32) ≤ ((σ.1 14 (Int32.toNatClampNeg (((4 : Int32) * x1) + (0 : Int32)))) - (σ.1 14 (Int32.toNatClampNeg (((4 : Int32) * x2) + (0 : Int32))))) then ((σ.1 14 (Int32.toNatClampNeg (((4 : Int32) * x1) + (0 : Int32)))) - (σ.1 14 (Int32.toNatClampNeg (((4 : Int32) * x2) + (0 : Int32))))) else 0 - ((σ.1 14 (Int32.toNatClampNeg (((4 : Int32) * x1) + (0 : Int32)))) - (σ.1 14 (Int32.toNatClampNeg (((4 : Int32) * x2) + (0 : Int32)))))) else (1 : Int32)) ≤ (σ.1 15 85)) then (-1 : Int32) else (4 : Int32)) else (2 : Int32)))))) σ) : ax_W shM (d + 1) mX12_whyNot Q 29 [some (ax_r 0), some (ax_i x1), some (ax_i x2)] [ax_i rr] σ := by
  have K5 : ax_W shM (d + 1) mX12_whyNot Q 78 [some (ax_r 0), some (ax_i x1), some (ax_i x2)] [ax_i (if (¬ rr = 0) then (2 : Int32) else (if ((¬ (¬ (σ.1 14 (Int32.toNatClampNeg (((4 : Int32) * x1) + (3 : Int32)))) = (2 : Int32))) ∧ (¬ (¬ (σ.1 14 (Int32.toNatClampNeg (((4 : Int32) * x2) + (3 : Int32)))) = (2 : Int32)))) then (2 : Int32) else (if (¬ (σ.1 15 84) = (16 : Int32)) then (if ((if (1 : Int32) < (if (0 : Int32) ≤ ((σ.1 14 (Int32.toNatClampNeg (((4 : Int32) * x1) + (0 : Int32)))) - (σ.1 14 (Int32.toNatClampNeg (((4 : Int32) * x2) + (0 : Int32))))) then ((σ.1 14 (Int32.toNatClampNeg (((4 : Int32) * x1) + (0 : Int32)))) - (σ.1 14 (Int32.toNatClampNeg (((4 : Int32) * x2) + (0 : Int32))))) else 0 - ((σ.1 14 (Int32.toNatClampNeg (((4 : Int32) * x1) + (0 : Int32)))) - (σ.1 14 (Int32.toNatClampNeg (((4 : Int32) * x2) + (0 : Int32)))))) then (if (0 : Int32) ≤ ((σ.1 14 (Int32.toNatClampNeg (((4 : Int32) * x1) + (0 : Int32)))) - (σ.1 14 (Int32.toNatClampNeg (((4 : Int32) * x2) + (0 : Int32))))) then ((σ.1 14 (Int32.toNatClampNeg (((4 : Int32) * x1) + (0 : Int32)))) - (σ.1 14 (Int32.toNatClampNeg (((4 : Int32) * x2) + (0 : Int32))))) else 0 - ((σ.1 14 (Int32.toNatClampNeg (((4 : Int32) * x1) + (0 : Int32)))) - (σ.1 14 (Int32.toNatClampNeg (((4 : Int32) * x2) + (0 : Int32)))))) else (1 : Int32)) ≤ (σ.1 15 85)) then (-1 : Int32) else (4 : Int32)) else (2 : Int32))))] σ := by
    exact ax_iret dX12_whyNot_78 rfl rfl k5
  refine ax_if_ne (tgt := 53) (q := 32) dX12_whyNot_29 (by decide) rfl (fun c1 => ?_) (fun c1 => ?_)
  · refine ax_iconst (q := 54) dX12_whyNot_53 rfl ki_2 ?_
    refine ax_goto (tgt := 78) dX12_whyNot_54 (by decide) ?_
    exact ax_cv (if_pos c1) K5
  · refine ax_aload_n (q := 33) (i := 0) dX12_whyNot_32 rfl rfl rfl ?_
    refine ax_iload_n (q := 34) (i := 1) dX12_whyNot_33 rfl rfl rfl ?_
    refine ax_iload_n (q := 35) (i := 2) dX12_whyNot_34 rfl rfl rfl ?_
    refine ax_callVfi (q := 38) (As := [ax_i x1, ax_i x2]) (st := []) (x := (if ((¬ (¬ (σ.1 14 (Int32.toNatClampNeg (((4 : Int32) * x1) + (3 : Int32)))) = (2 : Int32))) ∧ (¬ (¬ (σ.1 14 (Int32.toNatClampNeg (((4 : Int32) * x2) + (3 : Int32)))) = (2 : Int32)))) then (1 : Int32) else 0)) (σ2 := σ) dX12_whyNot_35 rfl lk_X12_369 shM_0 rfl rfl rfl rfl (Nat.le_of_ble_eq_true rfl) (f_X12_areChapels σ x1 x2 (h1 c1) (h2 c1) (d := d) (by omega)) ?_
    refine ax_if_neB (tgt := 53) (q := 41) dX12_whyNot_38 (by decide) rfl (fun c2 => ?_) (fun c2 => ?_)
    · refine ax_iconst (q := 54) dX12_whyNot_53 rfl ki_2 ?_
      refine ax_goto (tgt := 78) dX12_whyNot_54 (by decide) ?_
      exact ax_cv ((if_neg c1).trans (if_pos c2)) K5
    · refine ax_aload_n (q := 42) (i := 0) dX12_whyNot_41 rfl rfl rfl ?_
      refine ax_get (q := 45) (k := 0) (j := 25) (v := ax_r 15) dX12_whyNot_42 rfl shM_0 rfl rfl rfl (by decide) fl_X12_52 ?_
      refine ax_bipush (q := 47) dX12_whyNot_45 rfl kb_84 ?_
      refine ax_iald (q := 48) (a := 84) (v := (σ.1 15 84)) dX12_whyNot_47 rfl shM_15 (ax_inl 84 268 (by decide) (by decide)) rfl rfl ?_
      refine ax_bipush (q := 50) dX12_whyNot_48 rfl kb_16 ?_
      refine ax_icmp_ne (tgt := 57) (q := 53) dX12_whyNot_50 (by decide) rfl (fun c3 => ?_) (fun c3 => ?_)
      · refine ax_aload_n (q := 58) (i := 0) dX12_whyNot_57 rfl rfl rfl ?_
        refine ax_get (q := 61) (k := 0) (j := 25) (v := ax_r 15) dX12_whyNot_58 rfl shM_0 rfl rfl rfl (by decide) fl_X12_52 ?_
        refine ax_bipush (q := 63) dX12_whyNot_61 rfl kb_85 ?_
        refine ax_iald (q := 64) (a := 85) (v := (σ.1 15 85)) dX12_whyNot_63 rfl shM_15 (ax_inl 85 268 (by decide) (by decide)) rfl rfl ?_
        refine ax_aload_n (q := 65) (i := 0) dX12_whyNot_64 rfl rfl rfl ?_
        refine ax_iload_n (q := 66) (i := 1) dX12_whyNot_65 rfl rfl rfl ?_
        refine ax_iload_n (q := 67) (i := 2) dX12_whyNot_66 rfl rfl rfl ?_
        refine ax_callVfi (q := 70) (As := [ax_i x1, ax_i x2]) (st := [ax_i (σ.1 15 85)]) (x := (if (1 : Int32) < (if (0 : Int32) ≤ ((σ.1 14 (Int32.toNatClampNeg (((4 : Int32) * x1) + (0 : Int32)))) - (σ.1 14 (Int32.toNatClampNeg (((4 : Int32) * x2) + (0 : Int32))))) then ((σ.1 14 (Int32.toNatClampNeg (((4 : Int32) * x1) + (0 : Int32)))) - (σ.1 14 (Int32.toNatClampNeg (((4 : Int32) * x2) + (0 : Int32))))) else 0 - ((σ.1 14 (Int32.toNatClampNeg (((4 : Int32) * x1) + (0 : Int32)))) - (σ.1 14 (Int32.toNatClampNeg (((4 : Int32) * x2) + (0 : Int32)))))) then (if (0 : Int32) ≤ ((σ.1 14 (Int32.toNatClampNeg (((4 : Int32) * x1) + (0 : Int32)))) - (σ.1 14 (Int32.toNatClampNeg (((4 : Int32) * x2) + (0 : Int32))))) then ((σ.1 14 (Int32.toNatClampNeg (((4 : Int32) * x1) + (0 : Int32)))) - (σ.1 14 (Int32.toNatClampNeg (((4 : Int32) * x2) + (0 : Int32))))) else 0 - ((σ.1 14 (Int32.toNatClampNeg (((4 : Int32) * x1) + (0 : Int32)))) - (σ.1 14 (Int32.toNatClampNeg (((4 : Int32) * x2) + (0 : Int32)))))) else (1 : Int32))) (σ2 := σ) dX12_whyNot_67 rfl lk_X12_372 shM_0 rfl rfl rfl rfl (Nat.le_of_ble_eq_true rfl) (f_X12_priceOf σ x1 x2 (h3 c1 c2 c3) (h4 c1 c2 c3) (d := d) (by omega)) ?_
        refine ax_icmp_ge (tgt := 77) (q := 73) dX12_whyNot_70 (by decide) rfl (fun c4 => ?_) (fun c4 => ?_)
        · refine ax_iconst (q := 78) dX12_whyNot_77 rfl ki_m1 ?_
          exact ax_cv ((if_neg c1).trans ((if_neg c2).trans ((if_pos c3).trans (if_pos c4)))) K5
        · refine ax_iconst (q := 74) dX12_whyNot_73 rfl ki_4 ?_
          refine ax_goto (tgt := 78) dX12_whyNot_74 (by decide) ?_
          exact ax_cv ((if_neg c1).trans ((if_neg c2).trans ((if_pos c3).trans (if_neg c4)))) K5
      · refine ax_iconst (q := 54) dX12_whyNot_53 rfl ki_2 ?_
        refine ax_goto (tgt := 78) dX12_whyNot_54 (by decide) ?_
        exact ax_cv ((if_neg c1).trans ((if_neg c2).trans (if_neg c3))) K5
set_option maxRecDepth 20000 in
theorem s_X12_lay_0 {d : Nat} (hd : 0 ≤ d) {Q : Option ax_V → ax_S → Prop} (σ : ax_S) (a0 : Int32) (a1 : Int32) (k1 : ax_Ct shM d mX12_whyNot [ax_r 0, ax_i a0, ax_i a1] (fun r u => ∃ x : Int32, r = some (ax_i x) ∧ ax_W shM (d + 1) mX12_lay Q 7 [some (ax_r 0), some (ax_i a0), some (ax_i a1)] (ax_i x :: [ax_r 0]) u) σ) : ax_W shM (d + 1) mX12_lay Q 0 [some (ax_r 0), some (ax_i a0), some (ax_i a1)] [] σ := by
  refine ax_aload_n (q := 1) (i := 0) dX12_lay_0 rfl rfl rfl ?_
  refine ax_aload_n (q := 2) (i := 0) dX12_lay_1 rfl rfl rfl ?_
  refine ax_iload_n (q := 3) (i := 1) dX12_lay_2 rfl rfl rfl ?_
  refine ax_iload_n (q := 4) (i := 2) dX12_lay_3 rfl rfl rfl ?_
  exact ax_callVci (q := 7) (As := [ax_i a0, ax_i a1]) (st := [ax_r 0]) dX12_lay_4 rfl lk_X12_375 shM_0 rfl rfl rfl rfl (Nat.le_of_ble_eq_true rfl) k1
set_option maxRecDepth 20000 in
theorem s_X12_lay_7 {d : Nat} (hd : 0 ≤ d) {Q : Option ax_V → ax_S → Prop} (σ : ax_S) (x1 : Int32) (x2 : Int32) (rr : Int32) (k1 : ax_Ct shM d mX12_isRefused [ax_r 0, ax_i rr] (fun r u => ∃ x : Int32, r = some (ax_i x) ∧ ax_W shM (d + 1) mX12_lay Q 10 [some (ax_r 0), some (ax_i x1), some (ax_i x2)] (ax_i x :: []) u) σ) : ax_W shM (d + 1) mX12_lay Q 7 [some (ax_r 0), some (ax_i x1), some (ax_i x2)] [ax_i rr, ax_r 0] σ := by
  exact ax_callVci (q := 10) (As := [ax_i rr]) (st := []) dX12_lay_7 rfl lk_X12_354 shM_0 rfl rfl rfl rfl (Nat.le_of_ble_eq_true rfl) k1
set_option maxRecDepth 20000 in
theorem s_X12_lay_10 {d : Nat} (hd : 0 ≤ d) {Q : Option ax_V → ax_S → Prop} (σ : ax_S) (x1 : Int32) (x2 : Int32) (rr : Int32) (k1 : (rr = 0) → ax_Ct shM d mX12_keep [ax_r 0] (fun r u => r = none ∧ ax_W shM (d + 1) mX12_lay Q 19 [some (ax_r 0), some (ax_i x1), some (ax_i x2)] [] u) σ) (k2 : (¬ (rr = 0)) → Q (some (ax_i (-1 : Int32))) σ) : ax_W shM (d + 1) mX12_lay Q 10 [some (ax_r 0), some (ax_i x1), some (ax_i x2)] [ax_i rr] σ := by
  refine ax_if_eq (tgt := 15) (q := 13) dX12_lay_10 (by decide) rfl (fun c1 => ?_) (fun c1 => ?_)
  · refine ax_aload_n (q := 16) (i := 0) dX12_lay_15 rfl rfl rfl ?_
    exact ax_callVcv (q := 19) (As := []) (st := []) dX12_lay_16 rfl lk_X12_357 shM_0 rfl rfl rfl rfl (Nat.le_of_ble_eq_true rfl) (k1 c1)
  · refine ax_iconst (q := 14) dX12_lay_13 rfl ki_m1 ?_
    exact ax_iret dX12_lay_14 rfl rfl (k2 c1)
set_option maxRecDepth 20000 in
theorem s_X12_lay_19 {d : Nat} (hd : 3 ≤ d) {Q : Option ax_V → ax_S → Prop} (σ : ax_S) (x1 : Int32) (x2 : Int32) (h1 : vp_in (((4 : Int32) * x1) + (0 : Int32)) 32) (h2 : vp_in (((4 : Int32) * x2) + (0 : Int32)) 32) (h3 : vp_in (((16 : Int32) + ((4 : Int32) * (σ.1 15 84))) + (0 : Int32)) 268) (h4 : vp_in (((16 : Int32) + ((4 : Int32) * (σ.1 15 84))) + (1 : Int32)) 268) (h5 : vp_in (((16 : Int32) + ((4 : Int32) * (σ.1 15 84))) + (2 : Int32)) 268) (h6 : vp_in (((16 : Int32) + ((4 : Int32) * (σ.1 15 84))) + (3 : Int32)) 268) (k7 : Q (some (ax_i (σ.1 15 84))) (ax_ui (ax_ui (ax_ui (ax_ui (ax_ui (ax_ui σ 15 85 ((σ.1 15 85) - (if (1 : Int32) < (if (0 : Int32) ≤ ((σ.1 14 (Int32.toNatClampNeg (((4 : Int32) * x1) + (0 : Int32)))) - (σ.1 14 (Int32.toNatClampNeg (((4 : Int32) * x2) + (0 : Int32))))) then ((σ.1 14 (Int32.toNatClampNeg (((4 : Int32) * x1) + (0 : Int32)))) - (σ.1 14 (Int32.toNatClampNeg (((4 : Int32) * x2) + (0 : Int32))))) else 0 - ((σ.1 14 (Int32.toNatClampNeg (((4 : Int32) * x1) + (0 : Int32)))) - (σ.1 14 (Int32.toNatClampNeg (((4 : Int32) * x2) + (0 : Int32)))))) then (if (0 : Int32) ≤ ((σ.1 14 (Int32.toNatClampNeg (((4 : Int32) * x1) + (0 : Int32)))) - (σ.1 14 (Int32.toNatClampNeg (((4 : Int32) * x2) + (0 : Int32))))) then ((σ.1 14 (Int32.toNatClampNeg (((4 : Int32) * x1) + (0 : Int32)))) - (σ.1 14 (Int32.toNatClampNeg (((4 : Int32) * x2) + (0 : Int32))))) else 0 - ((σ.1 14 (Int32.toNatClampNeg (((4 : Int32) * x1) + (0 : Int32)))) - (σ.1 14 (Int32.toNatClampNeg (((4 : Int32) * x2) + (0 : Int32)))))) else (1 : Int32)))) 15 84 ((σ.1 15 84) + (1 : Int32))) 15 (Int32.toNatClampNeg (((16 : Int32) + ((4 : Int32) * (σ.1 15 84))) + (0 : Int32))) x1) 15 (Int32.toNatClampNeg (((16 : Int32) + ((4 : Int32) * (σ.1 15 84))) + (1 : Int32))) x2) 15 (Int32.toNatClampNeg (((16 : Int32) + ((4 : Int32) * (σ.1 15 84))) + (2 : Int32))) (0 : Int32)) 15 (Int32.toNatClampNeg (((16 : Int32) + ((4 : Int32) * (σ.1 15 84))) + (3 : Int32))) (0 : Int32))) : ax_W shM (d + 1) mX12_lay Q 19 [some (ax_r 0), some (ax_i x1), some (ax_i x2)] [] σ := by
  refine ax_aload_n (q := 20) (i := 0) dX12_lay_19 rfl rfl rfl ?_
  refine ax_get (q := 23) (k := 0) (j := 25) (v := ax_r 15) dX12_lay_20 rfl shM_0 rfl rfl rfl (by decide) fl_X12_52 ?_
  refine ax_bipush (q := 25) dX12_lay_23 rfl kb_85 ?_
  refine ax_dup2_11 (q := 26) dX12_lay_25 rfl ?_
  refine ax_iald (q := 27) (a := 85) (v := (σ.1 15 85)) dX12_lay_26 rfl shM_15 (ax_inl 85 268 (by decide) (by decide)) rfl rfl ?_
  refine ax_aload_n (q := 28) (i := 0) dX12_lay_27 rfl rfl rfl ?_
  refine ax_iload_n (q := 29) (i := 1) dX12_lay_28 rfl rfl rfl ?_
  refine ax_iload_n (q := 30) (i := 2) dX12_lay_29 rfl rfl rfl ?_
  refine ax_callVfi (q := 33) (As := [ax_i x1, ax_i x2]) (st := [ax_i (σ.1 15 85), ax_i (85 : Int32), ax_r 15]) (x := (if (1 : Int32) < (if (0 : Int32) ≤ ((σ.1 14 (Int32.toNatClampNeg (((4 : Int32) * x1) + (0 : Int32)))) - (σ.1 14 (Int32.toNatClampNeg (((4 : Int32) * x2) + (0 : Int32))))) then ((σ.1 14 (Int32.toNatClampNeg (((4 : Int32) * x1) + (0 : Int32)))) - (σ.1 14 (Int32.toNatClampNeg (((4 : Int32) * x2) + (0 : Int32))))) else 0 - ((σ.1 14 (Int32.toNatClampNeg (((4 : Int32) * x1) + (0 : Int32)))) - (σ.1 14 (Int32.toNatClampNeg (((4 : Int32) * x2) + (0 : Int32)))))) then (if (0 : Int32) ≤ ((σ.1 14 (Int32.toNatClampNeg (((4 : Int32) * x1) + (0 : Int32)))) - (σ.1 14 (Int32.toNatClampNeg (((4 : Int32) * x2) + (0 : Int32))))) then ((σ.1 14 (Int32.toNatClampNeg (((4 : Int32) * x1) + (0 : Int32)))) - (σ.1 14 (Int32.toNatClampNeg (((4 : Int32) * x2) + (0 : Int32))))) else 0 - ((σ.1 14 (Int32.toNatClampNeg (((4 : Int32) * x1) + (0 : Int32)))) - (σ.1 14 (Int32.toNatClampNeg (((4 : Int32) * x2) + (0 : Int32)))))) else (1 : Int32))) (σ2 := σ) dX12_lay_30 rfl lk_X12_372 shM_0 rfl rfl rfl rfl (Nat.le_of_ble_eq_true rfl) (f_X12_priceOf σ x1 x2 h1 h2 (d := d) (by omega)) ?_
  refine ax_isub (q := 34) dX12_lay_33 rfl ?_
  refine ax_iast (q := 35) (a := 85) dX12_lay_34 rfl shM_15 (ax_inl 85 268 (by decide) (by decide)) rfl ?_
  refine ax_aload_n (q := 36) (i := 0) dX12_lay_35 rfl rfl rfl ?_
  refine ax_iload_n (q := 37) (i := 1) dX12_lay_36 rfl rfl rfl ?_
  refine ax_iload_n (q := 38) (i := 2) dX12_lay_37 rfl rfl rfl ?_
  refine ax_iconst (q := 39) dX12_lay_38 rfl ki_0 ?_
  refine ax_callVfi (q := 42) (As := [ax_i x1, ax_i x2, ax_i (0 : Int32)]) (st := []) (x := (σ.1 15 84)) (σ2 := (ax_ui (ax_ui (ax_ui (ax_ui (ax_ui (ax_ui σ 15 85 ((σ.1 15 85) - (if (1 : Int32) < (if (0 : Int32) ≤ ((σ.1 14 (Int32.toNatClampNeg (((4 : Int32) * x1) + (0 : Int32)))) - (σ.1 14 (Int32.toNatClampNeg (((4 : Int32) * x2) + (0 : Int32))))) then ((σ.1 14 (Int32.toNatClampNeg (((4 : Int32) * x1) + (0 : Int32)))) - (σ.1 14 (Int32.toNatClampNeg (((4 : Int32) * x2) + (0 : Int32))))) else 0 - ((σ.1 14 (Int32.toNatClampNeg (((4 : Int32) * x1) + (0 : Int32)))) - (σ.1 14 (Int32.toNatClampNeg (((4 : Int32) * x2) + (0 : Int32)))))) then (if (0 : Int32) ≤ ((σ.1 14 (Int32.toNatClampNeg (((4 : Int32) * x1) + (0 : Int32)))) - (σ.1 14 (Int32.toNatClampNeg (((4 : Int32) * x2) + (0 : Int32))))) then ((σ.1 14 (Int32.toNatClampNeg (((4 : Int32) * x1) + (0 : Int32)))) - (σ.1 14 (Int32.toNatClampNeg (((4 : Int32) * x2) + (0 : Int32))))) else 0 - ((σ.1 14 (Int32.toNatClampNeg (((4 : Int32) * x1) + (0 : Int32)))) - (σ.1 14 (Int32.toNatClampNeg (((4 : Int32) * x2) + (0 : Int32)))))) else (1 : Int32)))) 15 84 ((σ.1 15 84) + (1 : Int32))) 15 (Int32.toNatClampNeg (((16 : Int32) + ((4 : Int32) * (σ.1 15 84))) + (0 : Int32))) x1) 15 (Int32.toNatClampNeg (((16 : Int32) + ((4 : Int32) * (σ.1 15 84))) + (1 : Int32))) x2) 15 (Int32.toNatClampNeg (((16 : Int32) + ((4 : Int32) * (σ.1 15 84))) + (2 : Int32))) (0 : Int32)) 15 (Int32.toNatClampNeg (((16 : Int32) + ((4 : Int32) * (σ.1 15 84))) + (3 : Int32))) (0 : Int32))) dX12_lay_39 rfl lk_X12_280 shM_0 rfl rfl rfl rfl (Nat.le_of_ble_eq_true rfl) (f_X12_string (ax_ui σ 15 85 ((σ.1 15 85) - (if (1 : Int32) < (if (0 : Int32) ≤ ((σ.1 14 (Int32.toNatClampNeg (((4 : Int32) * x1) + (0 : Int32)))) - (σ.1 14 (Int32.toNatClampNeg (((4 : Int32) * x2) + (0 : Int32))))) then ((σ.1 14 (Int32.toNatClampNeg (((4 : Int32) * x1) + (0 : Int32)))) - (σ.1 14 (Int32.toNatClampNeg (((4 : Int32) * x2) + (0 : Int32))))) else 0 - ((σ.1 14 (Int32.toNatClampNeg (((4 : Int32) * x1) + (0 : Int32)))) - (σ.1 14 (Int32.toNatClampNeg (((4 : Int32) * x2) + (0 : Int32)))))) then (if (0 : Int32) ≤ ((σ.1 14 (Int32.toNatClampNeg (((4 : Int32) * x1) + (0 : Int32)))) - (σ.1 14 (Int32.toNatClampNeg (((4 : Int32) * x2) + (0 : Int32))))) then ((σ.1 14 (Int32.toNatClampNeg (((4 : Int32) * x1) + (0 : Int32)))) - (σ.1 14 (Int32.toNatClampNeg (((4 : Int32) * x2) + (0 : Int32))))) else 0 - ((σ.1 14 (Int32.toNatClampNeg (((4 : Int32) * x1) + (0 : Int32)))) - (σ.1 14 (Int32.toNatClampNeg (((4 : Int32) * x2) + (0 : Int32)))))) else (1 : Int32)))) x1 x2 (0 : Int32) (ax_inl 84 268 (by decide) (by decide)) h3 h4 h5 h6 (d := d) (by omega)) ?_
  exact ax_iret dX12_lay_42 rfl rfl k7
