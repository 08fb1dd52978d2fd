set_option maxRecDepth 20000 in
theorem s_X12_readBelt_0 {d : Nat} (hd : 0 ≤ d) {Q : Option ax_V → ax_S → Prop} (σ : ax_S)  (k1 : ax_Ct shM d mX12_usual [ax_i (115 : Int32), ax_i (0 : Int32)] (fun r u => ∃ x : Int32, r = some (ax_i x) ∧ ax_W shM (d + 1) mX12_readBelt Q 33 [some (ax_r 0), some (ax_i (0 : Int32)), none, none] (ax_i x :: [ax_i (0 : Int32), ax_r 11]) u) (ax_ui (ax_ui (ax_ui (ax_ui σ 0 3 (0 : Int32)) 0 4 (-1 : Int32)) 0 20 (0 : Int32)) 0 21 (0 : Int32))) : ax_W shM (d + 1) mX12_readBelt Q 0 [some (ax_r 0), none, none, none] [] σ := by
  refine ax_aload_n (q := 1) (i := 0) dX12_readBelt_0 rfl rfl rfl ?_
  refine ax_iconst (q := 2) dX12_readBelt_1 rfl ki_0 ?_
  refine ax_puti (q := 5) (k := 0) (j := 3) dX12_readBelt_2 rfl shM_0 rfl rfl (by decide) fl_X12_118 rfl rfl rfl rfl ?_
  refine ax_aload_n (q := 6) (i := 0) dX12_readBelt_5 rfl rfl rfl ?_
  refine ax_iconst (q := 7) dX12_readBelt_6 rfl ki_m1 ?_
  refine ax_puti (q := 10) (k := 0) (j := 4) dX12_readBelt_7 rfl shM_0 rfl rfl (by decide) fl_X12_125 rfl rfl rfl rfl ?_
  refine ax_aload_n (q := 11) (i := 0) dX12_readBelt_10 rfl rfl rfl ?_
  refine ax_iconst (q := 12) dX12_readBelt_11 rfl ki_0 ?_
  refine ax_puti (q := 15) (k := 0) (j := 20) dX12_readBelt_12 rfl shM_0 rfl rfl (by decide) fl_X12_247 rfl rfl rfl rfl ?_
  refine ax_aload_n (q := 16) (i := 0) dX12_readBelt_15 rfl rfl rfl ?_
  refine ax_iconst (q := 17) dX12_readBelt_16 rfl ki_0 ?_
  refine ax_puti (q := 20) (k := 0) (j := 21) dX12_readBelt_17 rfl shM_0 rfl rfl (by decide) fl_X12_250 rfl rfl rfl rfl ?_
  refine ax_iconst (q := 21) dX12_readBelt_20 rfl ki_0 ?_
  refine ax_istore_n (q := 22) (i := 1) (lv2 := [some (ax_r 0), some (ax_i (0 : Int32)), none, none]) dX12_readBelt_21 rfl rfl (by decide) rfl rfl ?_
  refine ax_aload_n (q := 23) (i := 0) dX12_readBelt_22 rfl rfl rfl ?_
  refine ax_get (q := 26) (k := 0) (j := 17) (v := ax_r 11) dX12_readBelt_23 rfl shM_0 rfl rfl rfl (by decide) fl_X12_40 ?_
  refine ax_iconst (q := 27) dX12_readBelt_26 rfl ki_0 ?_
  refine ax_bipush (q := 29) dX12_readBelt_27 rfl kb_115 ?_
  refine ax_iconst (q := 30) dX12_readBelt_29 rfl ki_0 ?_
  exact ax_callSci (q := 33) (As := [ax_i (115 : Int32), ax_i (0 : Int32)]) (st := [ax_i (0 : Int32), ax_r 11]) dX12_readBelt_30 rfl lk_X12_227 rfl rfl (Nat.le_of_ble_eq_true rfl) k1
set_option maxRecDepth 20000 in
theorem s_X12_readBelt_33 {d : Nat} (hd : 0 ≤ d) {Q : Option ax_V → ax_S → Prop} (σ : ax_S) (x1 : Int32) (rr : Int32) (y0 : Int32) (h1 : vp_in y0 2) (k2 : ax_Ct shM d mX12_usual [ax_i (115 : Int32), ax_i (1 : Int32)] (fun r u => ∃ x : Int32, r = some (ax_i x) ∧ ax_W shM (d + 1) mX12_readBelt Q 45 [some (ax_r 0), some (ax_i x1), none, none] (ax_i x :: [ax_i (1 : Int32), ax_r 11]) u) (ax_ui σ 11 (Int32.toNatClampNeg y0) rr)) : ax_W shM (d + 1) mX12_readBelt Q 33 [some (ax_r 0), some (ax_i x1), none, none] [ax_i rr, ax_i y0, ax_r 11] σ := by
  refine ax_iast (q := 34) (a := (Int32.toNatClampNeg y0)) dX12_readBelt_33 rfl shM_11 h1 rfl ?_
  refine ax_aload_n (q := 35) (i := 0) dX12_readBelt_34 rfl rfl rfl ?_
  refine ax_get (q := 38) (k := 0) (j := 17) (v := ax_r 11) dX12_readBelt_35 rfl shM_0 rfl rfl rfl (by decide) fl_X12_40 ?_
  refine ax_iconst (q := 39) dX12_readBelt_38 rfl ki_1 ?_
  refine ax_bipush (q := 41) dX12_readBelt_39 rfl kb_115 ?_
  refine ax_iconst (q := 42) dX12_readBelt_41 rfl ki_1 ?_
  exact ax_callSci (q := 45) (As := [ax_i (115 : Int32), ax_i (1 : Int32)]) (st := [ax_i (1 : Int32), ax_r 11]) dX12_readBelt_42 rfl lk_X12_227 rfl rfl (Nat.le_of_ble_eq_true rfl) k2
set_option maxRecDepth 20000 in
theorem s_X12_readBelt_45 {d : Nat} (hd : 0 ≤ d) {Q : Option ax_V → ax_S → Prop} (σ : ax_S) (x1 : Int32) (rr : Int32) (y0 : Int32) (h1 : vp_in y0 2) (k2 : ax_W shM (d + 1) mX12_readBelt Q 48 [some (ax_r 0), some (ax_i x1), some (ax_i (1 : Int32)), none] [] (ax_ui σ 11 (Int32.toNatClampNeg y0) rr)) : ax_W shM (d + 1) mX12_readBelt Q 45 [some (ax_r 0), some (ax_i x1), none, none] [ax_i rr, ax_i y0, ax_r 11] σ := by
  refine ax_iast (q := 46) (a := (Int32.toNatClampNeg y0)) dX12_readBelt_45 rfl shM_11 h1 rfl ?_
  refine ax_iconst (q := 47) dX12_readBelt_46 rfl ki_1 ?_
  refine ax_istore_n (q := 48) (i := 2) (lv2 := [some (ax_r 0), some (ax_i x1), some (ax_i (1 : Int32)), none]) dX12_readBelt_47 rfl rfl (by decide) rfl rfl ?_
  exact k2
set_option maxRecDepth 20000 in
theorem s_X12_readBelt_48 {d : Nat} (hd : 0 ≤ d) {Q : Option ax_V → ax_S → Prop} (σ : ax_S) (x1 : Int32) (x2 : Int32) (k1 : (x2 = 0) → (¬ (σ.1 0 4) = (-1 : Int32)) → Q (some (ax_i (σ.1 0 4))) σ) (k2 : (x2 = 0) → (¬ (¬ (σ.1 0 4) = (-1 : Int32))) → ax_Ct shM d mX12_look [ax_r 0] (fun r u => ∃ x : Int32, r = some (ax_i x) ∧ ax_W shM (d + 1) mX12_readBelt Q 269 [some (ax_r 0), none, none, none] (ax_i x :: []) u) σ) (k3 : (¬ (x2 = 0)) → (¬ (σ.1 0 4) = (-1 : Int32)) → Q (some (ax_i (σ.1 0 4))) σ) (k4 : (¬ (x2 = 0)) → (¬ (¬ (σ.1 0 4) = (-1 : Int32))) → ax_Ct shM d mX12_look [ax_r 0] (fun r u => ∃ x : Int32, r = some (ax_i x) ∧ ax_W shM (d + 1) mX12_readBelt Q 64 [some (ax_r 0), some (ax_i x1), none, none] (ax_i x :: []) u) σ) : ax_W shM (d + 1) mX12_readBelt Q 48 [some (ax_r 0), some (ax_i x1), some (ax_i x2), none] [] σ := by
  refine ax_iload_n (q := 49) (i := 2) dX12_readBelt_48 rfl rfl rfl ?_
  refine ax_if_eq (tgt := 257) (q := 52) dX12_readBelt_49 (by decide) rfl (fun c1 => ?_) (fun c1 => ?_)
  · refine ax_aload_n (q := 258) (i := 0) dX12_readBelt_257 rfl rfl rfl ?_
    refine ax_get (q := 261) (k := 0) (j := 4) (v := ax_i (σ.1 0 4)) dX12_readBelt_258 rfl shM_0 rfl rfl rfl (by decide) fl_X12_125 ?_
    refine ax_iconst (q := 262) dX12_readBelt_261 rfl ki_m1 ?_
    refine ax_icmp_ne (tgt := 284) (q := 265) dX12_readBelt_262 (by decide) rfl (fun c2 => ?_) (fun c2 => ?_)
    · refine ax_aload_n (q := 285) (i := 0) dX12_readBelt_284 rfl rfl rfl ?_
      refine ax_get (q := 288) (k := 0) (j := 4) (v := ax_i (σ.1 0 4)) dX12_readBelt_285 rfl shM_0 rfl rfl rfl (by decide) fl_X12_125 ?_
      exact ax_iret dX12_readBelt_288 rfl rfl (k1 c1 c2)
    · refine ax_aload_n (q := 266) (i := 0) dX12_readBelt_265 rfl rfl rfl ?_
      refine ax_fg (lv2 := [some (ax_r 0), none, none, none]) ⟨rfl, trivial⟩ ?_
      exact ax_callVci (q := 269) (As := []) (st := []) dX12_readBelt_266 rfl lk_X12_137 shM_0 rfl rfl rfl rfl (Nat.le_of_ble_eq_true rfl) (k2 c1 c2)
  · refine ax_aload_n (q := 53) (i := 0) dX12_readBelt_52 rfl rfl rfl ?_
    refine ax_get (q := 56) (k := 0) (j := 4) (v := ax_i (σ.1 0 4)) dX12_readBelt_53 rfl shM_0 rfl rfl rfl (by decide) fl_X12_125 ?_
    refine ax_iconst (q := 57) dX12_readBelt_56 rfl ki_m1 ?_
    refine ax_icmp_ne (tgt := 257) (q := 60) dX12_readBelt_57 (by decide) rfl (fun c3 => ?_) (fun c3 => ?_)
    · refine ax_aload_n (q := 258) (i := 0) dX12_readBelt_257 rfl rfl rfl ?_
      refine ax_get (q := 261) (k := 0) (j := 4) (v := ax_i (σ.1 0 4)) dX12_readBelt_258 rfl shM_0 rfl rfl rfl (by decide) fl_X12_125 ?_
      refine ax_iconst (q := 262) dX12_readBelt_261 rfl ki_m1 ?_
      refine ax_icmp_ne (tgt := 284) (q := 265) dX12_readBelt_262 (by decide) rfl (fun c4 => ?_) (fun c4 => ?_)
      · refine ax_aload_n (q := 285) (i := 0) dX12_readBelt_284 rfl rfl rfl ?_
        refine ax_get (q := 288) (k := 0) (j := 4) (v := ax_i (σ.1 0 4)) dX12_readBelt_285 rfl shM_0 rfl rfl rfl (by decide) fl_X12_125 ?_
        exact ax_iret dX12_readBelt_288 rfl rfl (k3 c1 c3)
      · exact absurd c3 c4
    · refine ax_aload_n (q := 61) (i := 0) dX12_readBelt_60 rfl rfl rfl ?_
      refine ax_fg (lv2 := [some (ax_r 0), some (ax_i x1), none, none]) ⟨rfl, rfl, trivial⟩ ?_
      exact ax_callVci (q := 64) (As := []) (st := []) dX12_readBelt_61 rfl lk_X12_137 shM_0 rfl rfl rfl rfl (Nat.le_of_ble_eq_true rfl) (k4 c1 c3)
set_option maxRecDepth 20000 in
theorem s_X12_readBelt_269 {d : Nat} (hd : 1 ≤ d) {Q : Option ax_V → ax_S → Prop} (σ : ax_S) (rr : Int32) (k1 : (¬ rr = (-1 : Int32)) → Q (some (ax_i (if (¬ (σ.1 0 4) = (-1 : Int32)) then (σ.1 0 4) else (σ.1 0 3)))) (ax_ui σ 0 4 (if (¬ (σ.1 0 4) = (-1 : Int32)) then (σ.1 0 4) else (σ.1 0 3)))) (k2 : (¬ (¬ rr = (-1 : Int32))) → ax_Ct shM d mX12_isWhole [ax_r 0] (fun r u => ∃ x : Int32, r = some (ax_i x) ∧ ax_W shM (d + 1) mX12_readBelt Q 277 [some (ax_r 0), none, none, none] (ax_i x :: []) u) σ) : ax_W shM (d + 1) mX12_readBelt Q 269 [some (ax_r 0), none, none, none] [ax_i rr] σ := by
  refine ax_iconst (q := 270) dX12_readBelt_269 rfl ki_m1 ?_
  refine ax_icmp_ne (tgt := 280) (q := 273) dX12_readBelt_270 (by decide) rfl (fun c1 => ?_) (fun c1 => ?_)
  · refine ax_aload_n (q := 281) (i := 0) dX12_readBelt_280 rfl rfl rfl ?_
    refine ax_callVfv (q := 284) (As := []) (st := []) (σ2 := (ax_ui σ 0 4 (if (¬ (σ.1 0 4) = (-1 : Int32)) then (σ.1 0 4) else (σ.1 0 3)))) dX12_readBelt_281 rfl lk_X12_134 shM_0 rfl rfl rfl rfl (Nat.le_of_ble_eq_true rfl) (f_X12_bad σ   (d := d) (by omega)) ?_
    refine ax_aload_n (q := 285) (i := 0) dX12_readBelt_284 rfl rfl rfl ?_
    refine ax_get (q := 288) (k := 0) (j := 4) (v := ax_i (if (¬ (σ.1 0 4) = (-1 : Int32)) then (σ.1 0 4) else (σ.1 0 3))) dX12_readBelt_285 rfl shM_0 rfl rfl rfl (by decide) fl_X12_125 ?_
    exact ax_iret dX12_readBelt_288 rfl rfl (k1 c1)
  · refine ax_aload_n (q := 274) (i := 0) dX12_readBelt_273 rfl rfl rfl ?_
    exact ax_callVci (q := 277) (As := []) (st := []) dX12_readBelt_274 rfl lk_X12_261 shM_0 rfl rfl rfl rfl (Nat.le_of_ble_eq_true rfl) (k2 c1)
set_option maxRecDepth 20000 in
theorem s_X12_readBelt_64 {d : Nat} (hd : 1 ≤ d) {Q : Option ax_V → ax_S → Prop} (σ : ax_S) (x1 : Int32) (rr : Int32) (k1 : (¬ rr = (115 : Int32)) → (¬ rr = (104 : Int32)) → (¬ rr = (119 : Int32)) → ax_W shM (d + 1) mX12_readBelt Q 213 [some (ax_r 0), some (ax_i x1), none, none] [] (ax_ui σ 0 4 (if (¬ (σ.1 0 4) = (-1 : Int32)) then (σ.1 0 4) else (σ.1 0 3)))) (k2 : (¬ rr = (115 : Int32)) → (¬ rr = (104 : Int32)) → (¬ (¬ rr = (119 : Int32))) → ((8 : Int32) ≤ (σ.1 0 21)) → ax_W shM (d + 1) mX12_readBelt Q 213 [some (ax_r 0), some (ax_i x1), none, none] [] (ax_ui σ 0 4 (if (¬ (σ.1 0 4) = (-1 : Int32)) then (σ.1 0 4) else (σ.1 0 3)))) (k3 : (¬ rr = (115 : Int32)) → (¬ rr = (104 : Int32)) → (¬ (¬ rr = (119 : Int32))) → (¬ ((8 : Int32) ≤ (σ.1 0 21))) → ax_Ct shM d mX12_items [ax_r 0, ax_i rr, ax_r 13, ax_i ((3 : Int32) * (σ.1 0 21)), ax_i (3 : Int32)] (fun r u => r = none ∧ ax_W shM (d + 1) mX12_readBelt Q 196 [some (ax_r 0), some (ax_i x1), none, none] [] u) (ax_ui σ 0 3 ((σ.1 0 3) + (1 : Int32)))) (k4 : (¬ rr = (115 : Int32)) → (¬ (¬ rr = (104 : Int32))) → ((8 : Int32) ≤ (σ.1 0 20)) → (¬ rr = (119 : Int32)) → ax_W shM (d + 1) mX12_readBelt Q 213 [some (ax_r 0), some (ax_i x1), none, none] [] (ax_ui σ 0 4 (if (¬ (σ.1 0 4) = (-1 : Int32)) then (σ.1 0 4) else (σ.1 0 3)))) (k5 : (¬ rr = (115 : Int32)) → (¬ (¬ rr = (104 : Int32))) → ((8 : Int32) ≤ (σ.1 0 20)) → (¬ (¬ rr = (119 : Int32))) → ((8 : Int32) ≤ (σ.1 0 21)) → ax_W shM (d + 1) mX12_readBelt Q 213 [some (ax_r 0), some (ax_i x1), none, none] [] (ax_ui σ 0 4 (if (¬ (σ.1 0 4) = (-1 : Int32)) then (σ.1 0 4) else (σ.1 0 3)))) (k6 : (¬ rr = (115 : Int32)) → (¬ (¬ rr = (104 : Int32))) → ((8 : Int32) ≤ (σ.1 0 20)) → (¬ (¬ rr = (119 : Int32))) → (¬ ((8 : Int32) ≤ (σ.1 0 21))) → ax_Ct shM d mX12_items [ax_r 0, ax_i rr, ax_r 13, ax_i ((3 : Int32) * (σ.1 0 21)), ax_i (3 : Int32)] (fun r u => r = none ∧ ax_W shM (d + 1) mX12_readBelt Q 196 [some (ax_r 0), some (ax_i x1), none, none] [] u) (ax_ui σ 0 3 ((σ.1 0 3) + (1 : Int32)))) (k7 : (¬ rr = (115 : Int32)) → (¬ (¬ rr = (104 : Int32))) → (¬ ((8 : Int32) ≤ (σ.1 0 20))) → ax_Ct shM d mX12_items [ax_r 0, ax_i rr, ax_r 12, ax_i ((4 : Int32) * (σ.1 0 20)), ax_i (4 : Int32)] (fun r u => r = none ∧ ax_W shM (d + 1) mX12_readBelt Q 142 [some (ax_r 0), some (ax_i x1), none, none] [] u) (ax_ui σ 0 3 ((σ.1 0 3) + (1 : Int32)))) (k8 : (¬ (¬ rr = (115 : Int32))) → (¬ x1 = 0) → (¬ rr = (104 : Int32)) → (¬ rr = (119 : Int32)) → ax_W shM (d + 1) mX12_readBelt Q 213 [some (ax_r 0), some (ax_i x1), none, none] [] (ax_ui σ 0 4 (if (¬ (σ.1 0 4) = (-1 : Int32)) then (σ.1 0 4) else (σ.1 0 3)))) (k9 : (¬ (¬ rr = (115 : Int32))) → (¬ x1 = 0) → (¬ rr = (104 : Int32)) → (¬ (¬ rr = (119 : Int32))) → ((8 : Int32) ≤ (σ.1 0 21)) → ax_W shM (d + 1) mX12_readBelt Q 213 [some (ax_r 0), some (ax_i x1), none, none] [] (ax_ui σ 0 4 (if (¬ (σ.1 0 4) = (-1 : Int32)) then (σ.1 0 4) else (σ.1 0 3)))) (k10 : (¬ (¬ rr = (115 : Int32))) → (¬ x1 = 0) → (¬ rr = (104 : Int32)) → (¬ (¬ rr = (119 : Int32))) → (¬ ((8 : Int32) ≤ (σ.1 0 21))) → ax_Ct shM d mX12_items [ax_r 0, ax_i rr, ax_r 13, ax_i ((3 : Int32) * (σ.1 0 21)), ax_i (3 : Int32)] (fun r u => r = none ∧ ax_W shM (d + 1) mX12_readBelt Q 196 [some (ax_r 0), some (ax_i x1), none, none] [] u) (ax_ui σ 0 3 ((σ.1 0 3) + (1 : Int32)))) (k11 : (¬ (¬ rr = (115 : Int32))) → (¬ x1 = 0) → (¬ (¬ rr = (104 : Int32))) → ((8 : Int32) ≤ (σ.1 0 20)) → (¬ rr = (119 : Int32)) → ax_W shM (d + 1) mX12_readBelt Q 213 [some (ax_r 0), some (ax_i x1), none, none] [] (ax_ui σ 0 4 (if (¬ (σ.1 0 4) = (-1 : Int32)) then (σ.1 0 4) else (σ.1 0 3)))) (k12 : (¬ (¬ rr = (115 : Int32))) → (¬ x1 = 0) → (¬ (¬ rr = (104 : Int32))) → ((8 : Int32) ≤ (σ.1 0 20)) → (¬ (¬ rr = (119 : Int32))) → ((8 : Int32) ≤ (σ.1 0 21)) → ax_W shM (d + 1) mX12_readBelt Q 213 [some (ax_r 0), some (ax_i x1), none, none] [] (ax_ui σ 0 4 (if (¬ (σ.1 0 4) = (-1 : Int32)) then (σ.1 0 4) else (σ.1 0 3)))) (k13 : (¬ (¬ rr = (115 : Int32))) → (¬ x1 = 0) → (¬ (¬ rr = (104 : Int32))) → ((8 : Int32) ≤ (σ.1 0 20)) → (¬ (¬ rr = (119 : Int32))) → (¬ ((8 : Int32) ≤ (σ.1 0 21))) → ax_Ct shM d mX12_items [ax_r 0, ax_i rr, ax_r 13, ax_i ((3 : Int32) * (σ.1 0 21)), ax_i (3 : Int32)] (fun r u => r = none ∧ ax_W shM (d + 1) mX12_readBelt Q 196 [some (ax_r 0), some (ax_i x1), none, none] [] u) (ax_ui σ 0 3 ((σ.1 0 3) + (1 : Int32)))) (k14 : (¬ (¬ rr = (115 : Int32))) → (¬ x1 = 0) → (¬ (¬ rr = (104 : Int32))) → (¬ ((8 : Int32) ≤ (σ.1 0 20))) → ax_Ct shM d mX12_items [ax_r 0, ax_i rr, ax_r 12, ax_i ((4 : Int32) * (σ.1 0 20)), ax_i (4 : Int32)] (fun r u => r = none ∧ ax_W shM (d + 1) mX12_readBelt Q 142 [some (ax_r 0), some (ax_i x1), none, none] [] u) (ax_ui σ 0 3 ((σ.1 0 3) + (1 : Int32)))) (k15 : (¬ (¬ rr = (115 : Int32))) → (¬ (¬ x1 = 0)) → ax_Ct shM d mX12_items [ax_r 0, ax_i rr, ax_r 11, ax_i (0 : Int32), ax_i (2 : Int32)] (fun r u => r = none ∧ ax_W shM (d + 1) mX12_readBelt Q 98 [some (ax_r 0), some (ax_i (1 : Int32)), none, none] [] u) (ax_ui σ 0 3 ((σ.1 0 3) + (1 : Int32)))) : ax_W shM (d + 1) mX12_readBelt Q 64 [some (ax_r 0), some (ax_i x1), none, none] [ax_i rr] σ := by
  refine ax_istore_n (q := 65) (i := 3) (lv2 := [some (ax_r 0), some (ax_i x1), none, some (ax_i rr)]) dX12_readBelt_64 rfl rfl (by decide) rfl rfl ?_
  refine ax_iload_n (q := 66) (i := 3) dX12_readBelt_65 rfl rfl rfl ?_
  refine ax_bipush (q := 68) dX12_readBelt_66 rfl kb_115 ?_
  refine ax_icmp_ne (tgt := 101) (q := 71) dX12_readBelt_68 (by decide) rfl (fun c1 => ?_) (fun c1 => ?_)
  · refine ax_iload_n (q := 102) (i := 3) dX12_readBelt_101 rfl rfl rfl ?_
    refine ax_bipush (q := 104) dX12_readBelt_102 rfl kb_104 ?_
    refine ax_icmp_ne (tgt := 155) (q := 107) dX12_readBelt_104 (by decide) rfl (fun c2 => ?_) (fun c2 => ?_)
    · refine ax_iload_n (q := 156) (i := 3) dX12_readBelt_155 rfl rfl rfl ?_
      refine ax_bipush (q := 158) dX12_readBelt_156 rfl kb_119 ?_
      refine ax_icmp_ne (tgt := 209) (q := 161) dX12_readBelt_158 (by decide) rfl (fun c3 => ?_) (fun c3 => ?_)
      · refine ax_aload_n (q := 210) (i := 0) dX12_readBelt_209 rfl rfl rfl ?_
        refine ax_callVfv (q := 213) (As := []) (st := []) (σ2 := (ax_ui σ 0 4 (if (¬ (σ.1 0 4) = (-1 : Int32)) then (σ.1 0 4) else (σ.1 0 3)))) dX12_readBelt_210 rfl lk_X12_134 shM_0 rfl rfl rfl rfl (Nat.le_of_ble_eq_true rfl) (f_X12_bad σ   (d := d) (by omega)) ?_
        refine ax_fg (lv2 := [some (ax_r 0), some (ax_i x1), none, none]) ⟨rfl, rfl, trivial⟩ ?_
        exact (k1 c1 c2 c3)
      · refine ax_aload_n (q := 162) (i := 0) dX12_readBelt_161 rfl rfl rfl ?_
        refine ax_get (q := 165) (k := 0) (j := 21) (v := ax_i (σ.1 0 21)) dX12_readBelt_162 rfl shM_0 rfl rfl rfl (by decide) fl_X12_250 ?_
        refine ax_bipush (q := 167) dX12_readBelt_165 rfl kb_8 ?_
        refine ax_icmp_ge (tgt := 209) (q := 170) dX12_readBelt_167 (by decide) rfl (fun c4 => ?_) (fun c4 => ?_)
        · refine ax_aload_n (q := 210) (i := 0) dX12_readBelt_209 rfl rfl rfl ?_
          refine ax_callVfv (q := 213) (As := []) (st := []) (σ2 := (ax_ui σ 0 4 (if (¬ (σ.1 0 4) = (-1 : Int32)) then (σ.1 0 4) else (σ.1 0 3)))) dX12_readBelt_210 rfl lk_X12_134 shM_0 rfl rfl rfl rfl (Nat.le_of_ble_eq_true rfl) (f_X12_bad σ   (d := d) (by omega)) ?_
          refine ax_fg (lv2 := [some (ax_r 0), some (ax_i x1), none, none]) ⟨rfl, rfl, trivial⟩ ?_
          exact (k2 c1 c2 c3 c4)
        · refine ax_aload_n (q := 171) (i := 0) dX12_readBelt_170 rfl rfl rfl ?_
          refine ax_dupr (q := 172) dX12_readBelt_171 rfl ?_
          refine ax_get (q := 175) (k := 0) (j := 3) (v := ax_i (σ.1 0 3)) dX12_readBelt_172 rfl shM_0 rfl rfl rfl (by decide) fl_X12_118 ?_
          refine ax_iconst (q := 176) dX12_readBelt_175 rfl ki_1 ?_
          refine ax_iadd (q := 177) dX12_readBelt_176 rfl ?_
          refine ax_puti (q := 180) (k := 0) (j := 3) dX12_readBelt_177 rfl shM_0 rfl rfl (by decide) fl_X12_118 rfl rfl rfl rfl ?_
          refine ax_aload_n (q := 181) (i := 0) dX12_readBelt_180 rfl rfl rfl ?_
          refine ax_iload_n (q := 182) (i := 3) dX12_readBelt_181 rfl rfl rfl ?_
          refine ax_aload_n (q := 183) (i := 0) dX12_readBelt_182 rfl rfl rfl ?_
          refine ax_get (q := 186) (k := 0) (j := 19) (v := ax_r 13) dX12_readBelt_183 rfl shM_0 rfl rfl rfl (by decide) fl_X12_46 ?_
          refine ax_iconst (q := 187) dX12_readBelt_186 rfl ki_3 ?_
          refine ax_aload_n (q := 188) (i := 0) dX12_readBelt_187 rfl rfl rfl ?_
          refine ax_get (q := 191) (k := 0) (j := 21) (v := ax_i (σ.1 0 21)) dX12_readBelt_188 rfl shM_0 rfl rfl rfl (by decide) fl_X12_250 ?_
          refine ax_imul (q := 192) dX12_readBelt_191 rfl ?_
          refine ax_iconst (q := 193) dX12_readBelt_192 rfl ki_3 ?_
          refine ax_fg (lv2 := [some (ax_r 0), some (ax_i x1), none, none]) ⟨rfl, rfl, trivial⟩ ?_
          exact ax_callVcv (q := 196) (As := [ax_i rr, ax_r 13, ax_i ((3 : Int32) * (σ.1 0 21)), ax_i (3 : Int32)]) (st := []) dX12_readBelt_193 rfl lk_X12_257 shM_0 rfl rfl rfl rfl (Nat.le_of_ble_eq_true rfl) (k3 c1 c2 c3 c4)
    · refine ax_aload_n (q := 108) (i := 0) dX12_readBelt_107 rfl rfl rfl ?_
      refine ax_get (q := 111) (k := 0) (j := 20) (v := ax_i (σ.1 0 20)) dX12_readBelt_108 rfl shM_0 rfl rfl rfl (by decide) fl_X12_247 ?_
      refine ax_bipush (q := 113) dX12_readBelt_111 rfl kb_8 ?_
      refine ax_icmp_ge (tgt := 155) (q := 116) dX12_readBelt_113 (by decide) rfl (fun c5 => ?_) (fun c5 => ?_)
      · refine ax_iload_n (q := 156) (i := 3) dX12_readBelt_155 rfl rfl rfl ?_
        refine ax_bipush (q := 158) dX12_readBelt_156 rfl kb_119 ?_
        refine ax_icmp_ne (tgt := 209) (q := 161) dX12_readBelt_158 (by decide) rfl (fun c6 => ?_) (fun c6 => ?_)
        · refine ax_aload_n (q := 210) (i := 0) dX12_readBelt_209 rfl rfl rfl ?_
          refine ax_callVfv (q := 213) (As := []) (st := []) (σ2 := (ax_ui σ 0 4 (if (¬ (σ.1 0 4) = (-1 : Int32)) then (σ.1 0 4) else (σ.1 0 3)))) dX12_readBelt_210 rfl lk_X12_134 shM_0 rfl rfl rfl rfl (Nat.le_of_ble_eq_true rfl) (f_X12_bad σ   (d := d) (by omega)) ?_
          refine ax_fg (lv2 := [some (ax_r 0), some (ax_i x1), none, none]) ⟨rfl, rfl, trivial⟩ ?_
          exact (k4 c1 c2 c5 c6)
        · refine ax_aload_n (q := 162) (i := 0) dX12_readBelt_161 rfl rfl rfl ?_
          refine ax_get (q := 165) (k := 0) (j := 21) (v := ax_i (σ.1 0 21)) dX12_readBelt_162 rfl shM_0 rfl rfl rfl (by decide) fl_X12_250 ?_
          refine ax_bipush (q := 167) dX12_readBelt_165 rfl kb_8 ?_
          refine ax_icmp_ge (tgt := 209) (q := 170) dX12_readBelt_167 (by decide) rfl (fun c7 => ?_) (fun c7 => ?_)
          · refine ax_aload_n (q := 210) (i := 0) dX12_readBelt_209 rfl rfl rfl ?_
            refine ax_callVfv (q := 213) (As := []) (st := []) (σ2 := (ax_ui σ 0 4 (if (¬ (σ.1 0 4) = (-1 : Int32)) then (σ.1 0 4) else (σ.1 0 3)))) dX12_readBelt_210 rfl lk_X12_134 shM_0 rfl rfl rfl rfl (Nat.le_of_ble_eq_true rfl) (f_X12_bad σ   (d := d) (by omega)) ?_
            refine ax_fg (lv2 := [some (ax_r 0), some (ax_i x1), none, none]) ⟨rfl, rfl, trivial⟩ ?_
            exact (k5 c1 c2 c5 c6 c7)
          · refine ax_aload_n (q := 171) (i := 0) dX12_readBelt_170 rfl rfl rfl ?_
            refine ax_dupr (q := 172) dX12_readBelt_171 rfl ?_
            refine ax_get (q := 175) (k := 0) (j := 3) (v := ax_i (σ.1 0 3)) dX12_readBelt_172 rfl shM_0 rfl rfl rfl (by decide) fl_X12_118 ?_
            refine ax_iconst (q := 176) dX12_readBelt_175 rfl ki_1 ?_
            refine ax_iadd (q := 177) dX12_readBelt_176 rfl ?_
            refine ax_puti (q := 180) (k := 0) (j := 3) dX12_readBelt_177 rfl shM_0 rfl rfl (by decide) fl_X12_118 rfl rfl rfl rfl ?_
            refine ax_aload_n (q := 181) (i := 0) dX12_readBelt_180 rfl rfl rfl ?_
            refine ax_iload_n (q := 182) (i := 3) dX12_readBelt_181 rfl rfl rfl ?_
            refine ax_aload_n (q := 183) (i := 0) dX12_readBelt_182 rfl rfl rfl ?_
            refine ax_get (q := 186) (k := 0) (j := 19) (v := ax_r 13) dX12_readBelt_183 rfl shM_0 rfl rfl rfl (by decide) fl_X12_46 ?_
            refine ax_iconst (q := 187) dX12_readBelt_186 rfl ki_3 ?_
            refine ax_aload_n (q := 188) (i := 0) dX12_readBelt_187 rfl rfl rfl ?_
            refine ax_get (q := 191) (k := 0) (j := 21) (v := ax_i (σ.1 0 21)) dX12_readBelt_188 rfl shM_0 rfl rfl rfl (by decide) fl_X12_250 ?_
            refine ax_imul (q := 192) dX12_readBelt_191 rfl ?_
            refine ax_iconst (q := 193) dX12_readBelt_192 rfl ki_3 ?_
            refine ax_fg (lv2 := [some (ax_r 0), some (ax_i x1), none, none]) ⟨rfl, rfl, trivial⟩ ?_
            exact ax_callVcv (q := 196) (As := [ax_i rr, ax_r 13, ax_i ((3 : Int32) * (σ.1 0 21)), ax_i (3 : Int32)]) (st := []) dX12_readBelt_193 rfl lk_X12_257 shM_0 rfl rfl rfl rfl (Nat.le_of_ble_eq_true rfl) (k6 c1 c2 c5 c6 c7)
      · refine ax_aload_n (q := 117) (i := 0) dX12_readBelt_116 rfl rfl rfl ?_
        refine ax_dupr (q := 118) dX12_readBelt_117 rfl ?_
        refine ax_get (q := 121) (k := 0) (j := 3) (v := ax_i (σ.1 0 3)) dX12_readBelt_118 rfl shM_0 rfl rfl rfl (by decide) fl_X12_118 ?_
        refine ax_iconst (q := 122) dX12_readBelt_121 rfl ki_1 ?_
        refine ax_iadd (q := 123) dX12_readBelt_122 rfl ?_
        refine ax_puti (q := 126) (k := 0) (j := 3) dX12_readBelt_123 rfl shM_0 rfl rfl (by decide) fl_X12_118 rfl rfl rfl rfl ?_
        refine ax_aload_n (q := 127) (i := 0) dX12_readBelt_126 rfl rfl rfl ?_
        refine ax_iload_n (q := 128) (i := 3) dX12_readBelt_127 rfl rfl rfl ?_
        refine ax_aload_n (q := 129) (i := 0) dX12_readBelt_128 rfl rfl rfl ?_
        refine ax_get (q := 132) (k := 0) (j := 18) (v := ax_r 12) dX12_readBelt_129 rfl shM_0 rfl rfl rfl (by decide) fl_X12_43 ?_
        refine ax_iconst (q := 133) dX12_readBelt_132 rfl ki_4 ?_
        refine ax_aload_n (q := 134) (i := 0) dX12_readBelt_133 rfl rfl rfl ?_
        refine ax_get (q := 137) (k := 0) (j := 20) (v := ax_i (σ.1 0 20)) dX12_readBelt_134 rfl shM_0 rfl rfl rfl (by decide) fl_X12_247 ?_
        refine ax_imul (q := 138) dX12_readBelt_137 rfl ?_
        refine ax_iconst (q := 139) dX12_readBelt_138 rfl ki_4 ?_
        refine ax_fg (lv2 := [some (ax_r 0), some (ax_i x1), none, none]) ⟨rfl, rfl, trivial⟩ ?_
        exact ax_callVcv (q := 142) (As := [ax_i rr, ax_r 12, ax_i ((4 : Int32) * (σ.1 0 20)), ax_i (4 : Int32)]) (st := []) dX12_readBelt_139 rfl lk_X12_257 shM_0 rfl rfl rfl rfl (Nat.le_of_ble_eq_true rfl) (k7 c1 c2 c5)
  · refine ax_iload_n (q := 72) (i := 1) dX12_readBelt_71 rfl rfl rfl ?_
    refine ax_if_ne (tgt := 101) (q := 75) dX12_readBelt_72 (by decide) rfl (fun c8 => ?_) (fun c8 => ?_)
    · refine ax_iload_n (q := 102) (i := 3) dX12_readBelt_101 rfl rfl rfl ?_
      refine ax_bipush (q := 104) dX12_readBelt_102 rfl kb_104 ?_
      refine ax_icmp_ne (tgt := 155) (q := 107) dX12_readBelt_104 (by decide) rfl (fun c9 => ?_) (fun c9 => ?_)
      · refine ax_iload_n (q := 156) (i := 3) dX12_readBelt_155 rfl rfl rfl ?_
        refine ax_bipush (q := 158) dX12_readBelt_156 rfl kb_119 ?_
        refine ax_icmp_ne (tgt := 209) (q := 161) dX12_readBelt_158 (by decide) rfl (fun c10 => ?_) (fun c10 => ?_)
        · refine ax_aload_n (q := 210) (i := 0) dX12_readBelt_209 rfl rfl rfl ?_
          refine ax_callVfv (q := 213) (As := []) (st := []) (σ2 := (ax_ui σ 0 4 (if (¬ (σ.1 0 4) = (-1 : Int32)) then (σ.1 0 4) else (σ.1 0 3)))) dX12_readBelt_210 rfl lk_X12_134 shM_0 rfl rfl rfl rfl (Nat.le_of_ble_eq_true rfl) (f_X12_bad σ   (d := d) (by omega)) ?_
          refine ax_fg (lv2 := [some (ax_r 0), some (ax_i x1), none, none]) ⟨rfl, rfl, trivial⟩ ?_
          exact (k8 c1 c8 c9 c10)
        · refine ax_aload_n (q := 162) (i := 0) dX12_readBelt_161 rfl rfl rfl ?_
          refine ax_get (q := 165) (k := 0) (j := 21) (v := ax_i (σ.1 0 21)) dX12_readBelt_162 rfl shM_0 rfl rfl rfl (by decide) fl_X12_250 ?_
          refine ax_bipush (q := 167) dX12_readBelt_165 rfl kb_8 ?_
          refine ax_icmp_ge (tgt := 209) (q := 170) dX12_readBelt_167 (by decide) rfl (fun c11 => ?_) (fun c11 => ?_)
          · refine ax_aload_n (q := 210) (i := 0) dX12_readBelt_209 rfl rfl rfl ?_
            refine ax_callVfv (q := 213) (As := []) (st := []) (σ2 := (ax_ui σ 0 4 (if (¬ (σ.1 0 4) = (-1 : Int32)) then (σ.1 0 4) else (σ.1 0 3)))) dX12_readBelt_210 rfl lk_X12_134 shM_0 rfl rfl rfl rfl (Nat.le_of_ble_eq_true rfl) (f_X12_bad σ   (d := d) (by omega)) ?_
            refine ax_fg (lv2 := [some (ax_r 0), some (ax_i x1), none, none]) ⟨rfl, rfl, trivial⟩ ?_
            exact (k9 c1 c8 c9 c10 c11)
          · refine ax_aload_n (q := 171) (i := 0) dX12_readBelt_170 rfl rfl rfl ?_
            refine ax_dupr (q := 172) dX12_readBelt_171 rfl ?_
            refine ax_get (q := 175) (k := 0) (j := 3) (v := ax_i (σ.1 0 3)) dX12_readBelt_172 rfl shM_0 rfl rfl rfl (by decide) fl_X12_118 ?_
            refine ax_iconst (q := 176) dX12_readBelt_175 rfl ki_1 ?_
            refine ax_iadd (q := 177) dX12_readBelt_176 rfl ?_
            refine ax_puti (q := 180) (k := 0) (j := 3) dX12_readBelt_177 rfl shM_0 rfl rfl (by decide) fl_X12_118 rfl rfl rfl rfl ?_
            refine ax_aload_n (q := 181) (i := 0) dX12_readBelt_180 rfl rfl rfl ?_
            refine ax_iload_n (q := 182) (i := 3) dX12_readBelt_181 rfl rfl rfl ?_
            refine ax_aload_n (q := 183) (i := 0) dX12_readBelt_182 rfl rfl rfl ?_
            refine ax_get (q := 186) (k := 0) (j := 19) (v := ax_r 13) dX12_readBelt_183 rfl shM_0 rfl rfl rfl (by decide) fl_X12_46 ?_
            refine ax_iconst (q := 187) dX12_readBelt_186 rfl ki_3 ?_
            refine ax_aload_n (q := 188) (i := 0) dX12_readBelt_187 rfl rfl rfl ?_
            refine ax_get (q := 191) (k := 0) (j := 21) (v := ax_i (σ.1 0 21)) dX12_readBelt_188 rfl shM_0 rfl rfl rfl (by decide) fl_X12_250 ?_
            refine ax_imul (q := 192) dX12_readBelt_191 rfl ?_
            refine ax_iconst (q := 193) dX12_readBelt_192 rfl ki_3 ?_
            refine ax_fg (lv2 := [some (ax_r 0), some (ax_i x1), none, none]) ⟨rfl, rfl, trivial⟩ ?_
            exact ax_callVcv (q := 196) (As := [ax_i rr, ax_r 13, ax_i ((3 : Int32) * (σ.1 0 21)), ax_i (3 : Int32)]) (st := []) dX12_readBelt_193 rfl lk_X12_257 shM_0 rfl rfl rfl rfl (Nat.le_of_ble_eq_true rfl) (k10 c1 c8 c9 c10 c11)
      · refine ax_aload_n (q := 108) (i := 0) dX12_readBelt_107 rfl rfl rfl ?_
        refine ax_get (q := 111) (k := 0) (j := 20) (v := ax_i (σ.1 0 20)) dX12_readBelt_108 rfl shM_0 rfl rfl rfl (by decide) fl_X12_247 ?_
        refine ax_bipush (q := 113) dX12_readBelt_111 rfl kb_8 ?_
        refine ax_icmp_ge (tgt := 155) (q := 116) dX12_readBelt_113 (by decide) rfl (fun c12 => ?_) (fun c12 => ?_)
        · refine ax_iload_n (q := 156) (i := 3) dX12_readBelt_155 rfl rfl rfl ?_
          refine ax_bipush (q := 158) dX12_readBelt_156 rfl kb_119 ?_
          refine ax_icmp_ne (tgt := 209) (q := 161) dX12_readBelt_158 (by decide) rfl (fun c13 => ?_) (fun c13 => ?_)
          · refine ax_aload_n (q := 210) (i := 0) dX12_readBelt_209 rfl rfl rfl ?_
            refine ax_callVfv (q := 213) (As := []) (st := []) (σ2 := (ax_ui σ 0 4 (if (¬ (σ.1 0 4) = (-1 : Int32)) then (σ.1 0 4) else (σ.1 0 3)))) dX12_readBelt_210 rfl lk_X12_134 shM_0 rfl rfl rfl rfl (Nat.le_of_ble_eq_true rfl) (f_X12_bad σ   (d := d) (by omega)) ?_
            refine ax_fg (lv2 := [some (ax_r 0), some (ax_i x1), none, none]) ⟨rfl, rfl, trivial⟩ ?_
            exact (k11 c1 c8 c9 c12 c13)
          · refine ax_aload_n (q := 162) (i := 0) dX12_readBelt_161 rfl rfl rfl ?_
            refine ax_get (q := 165) (k := 0) (j := 21) (v := ax_i (σ.1 0 21)) dX12_readBelt_162 rfl shM_0 rfl rfl rfl (by decide) fl_X12_250 ?_
            refine ax_bipush (q := 167) dX12_readBelt_165 rfl kb_8 ?_
            refine ax_icmp_ge (tgt := 209) (q := 170) dX12_readBelt_167 (by decide) rfl (fun c14 => ?_) (fun c14 => ?_)
            · refine ax_aload_n (q := 210) (i := 0) dX12_readBelt_209 rfl rfl rfl ?_
              refine ax_callVfv (q := 213) (As := []) (st := []) (σ2 := (ax_ui σ 0 4 (if (¬ (σ.1 0 4) = (-1 : Int32)) then (σ.1 0 4) else (σ.1 0 3)))) dX12_readBelt_210 rfl lk_X12_134 shM_0 rfl rfl rfl rfl (Nat.le_of_ble_eq_true rfl) (f_X12_bad σ   (d := d) (by omega)) ?_
              refine ax_fg (lv2 := [some (ax_r 0), some (ax_i x1), none, none]) ⟨rfl, rfl, trivial⟩ ?_
              exact (k12 c1 c8 c9 c12 c13 c14)
            · refine ax_aload_n (q := 171) (i := 0) dX12_readBelt_170 rfl rfl rfl ?_
              refine ax_dupr (q := 172) dX12_readBelt_171 rfl ?_
              refine ax_get (q := 175) (k := 0) (j := 3) (v := ax_i (σ.1 0 3)) dX12_readBelt_172 rfl shM_0 rfl rfl rfl (by decide) fl_X12_118 ?_
              refine ax_iconst (q := 176) dX12_readBelt_175 rfl ki_1 ?_
              refine ax_iadd (q := 177) dX12_readBelt_176 rfl ?_
              refine ax_puti (q := 180) (k := 0) (j := 3) dX12_readBelt_177 rfl shM_0 rfl rfl (by decide) fl_X12_118 rfl rfl rfl rfl ?_
              refine ax_aload_n (q := 181) (i := 0) dX12_readBelt_180 rfl rfl rfl ?_
              refine ax_iload_n (q := 182) (i := 3) dX12_readBelt_181 rfl rfl rfl ?_
              refine ax_aload_n (q := 183) (i := 0) dX12_readBelt_182 rfl rfl rfl ?_
              refine ax_get (q := 186) (k := 0) (j := 19) (v := ax_r 13) dX12_readBelt_183 rfl shM_0 rfl rfl rfl (by decide) fl_X12_46 ?_
              refine ax_iconst (q := 187) dX12_readBelt_186 rfl ki_3 ?_
              refine ax_aload_n (q := 188) (i := 0) dX12_readBelt_187 rfl rfl rfl ?_
              refine ax_get (q := 191) (k := 0) (j := 21) (v := ax_i (σ.1 0 21)) dX12_readBelt_188 rfl shM_0 rfl rfl rfl (by decide) fl_X12_250 ?_
              refine ax_imul (q := 192) dX12_readBelt_191 rfl ?_
              refine ax_iconst (q := 193) dX12_readBelt_192 rfl ki_3 ?_
              refine ax_fg (lv2 := [some (ax_r 0), some (ax_i x1), none, none]) ⟨rfl, rfl, trivial⟩ ?_
              exact ax_callVcv (q := 196) (As := [ax_i rr, ax_r 13, ax_i ((3 : Int32) * (σ.1 0 21)), ax_i (3 : Int32)]) (st := []) dX12_readBelt_193 rfl lk_X12_257 shM_0 rfl rfl rfl rfl (Nat.le_of_ble_eq_true rfl) (k13 c1 c8 c9 c12 c13 c14)
        · refine ax_aload_n (q := 117) (i := 0) dX12_readBelt_116 rfl rfl rfl ?_
          refine ax_dupr (q := 118) dX12_readBelt_117 rfl ?_
          refine ax_get (q := 121) (k := 0) (j := 3) (v := ax_i (σ.1 0 3)) dX12_readBelt_118 rfl shM_0 rfl rfl rfl (by decide) fl_X12_118 ?_
          refine ax_iconst (q := 122) dX12_readBelt_121 rfl ki_1 ?_
          refine ax_iadd (q := 123) dX12_readBelt_122 rfl ?_
          refine ax_puti (q := 126) (k := 0) (j := 3) dX12_readBelt_123 rfl shM_0 rfl rfl (by decide) fl_X12_118 rfl rfl rfl rfl ?_
          refine ax_aload_n (q := 127) (i := 0) dX12_readBelt_126 rfl rfl rfl ?_
          refine ax_iload_n (q := 128) (i := 3) dX12_readBelt_127 rfl rfl rfl ?_
          refine ax_aload_n (q := 129) (i := 0) dX12_readBelt_128 rfl rfl rfl ?_
          refine ax_get (q := 132) (k := 0) (j := 18) (v := ax_r 12) dX12_readBelt_129 rfl shM_0 rfl rfl rfl (by decide) fl_X12_43 ?_
          refine ax_iconst (q := 133) dX12_readBelt_132 rfl ki_4 ?_
          refine ax_aload_n (q := 134) (i := 0) dX12_readBelt_133 rfl rfl rfl ?_
          refine ax_get (q := 137) (k := 0) (j := 20) (v := ax_i (σ.1 0 20)) dX12_readBelt_134 rfl shM_0 rfl rfl rfl (by decide) fl_X12_247 ?_
          refine ax_imul (q := 138) dX12_readBelt_137 rfl ?_
          refine ax_iconst (q := 139) dX12_readBelt_138 rfl ki_4 ?_
          refine ax_fg (lv2 := [some (ax_r 0), some (ax_i x1), none, none]) ⟨rfl, rfl, trivial⟩ ?_
          exact ax_callVcv (q := 142) (As := [ax_i rr, ax_r 12, ax_i ((4 : Int32) * (σ.1 0 20)), ax_i (4 : Int32)]) (st := []) dX12_readBelt_139 rfl lk_X12_257 shM_0 rfl rfl rfl rfl (Nat.le_of_ble_eq_true rfl) (k14 c1 c8 c9 c12)
    · refine ax_iconst (q := 76) dX12_readBelt_75 rfl ki_1 ?_
      refine ax_istore_n (q := 77) (i := 1) (lv2 := [some (ax_r 0), some (ax_i (1 : Int32)), none, some (ax_i rr)]) dX12_readBelt_76 rfl rfl (by decide) rfl rfl ?_
      refine ax_aload_n (q := 78) (i := 0) dX12_readBelt_77 rfl rfl rfl ?_
      refine ax_dupr (q := 79) dX12_readBelt_78 rfl ?_
      refine ax_get (q := 82) (k := 0) (j := 3) (v := ax_i (σ.1 0 3)) dX12_readBelt_79 rfl shM_0 rfl rfl rfl (by decide) fl_X12_118 ?_
      refine ax_iconst (q := 83) dX12_readBelt_82 rfl ki_1 ?_
      refine ax_iadd (q := 84) dX12_readBelt_83 rfl ?_
      refine ax_puti (q := 87) (k := 0) (j := 3) dX12_readBelt_84 rfl shM_0 rfl rfl (by decide) fl_X12_118 rfl rfl rfl rfl ?_
      refine ax_aload_n (q := 88) (i := 0) dX12_readBelt_87 rfl rfl rfl ?_
      refine ax_iload_n (q := 89) (i := 3) dX12_readBelt_88 rfl rfl rfl ?_
      refine ax_aload_n (q := 90) (i := 0) dX12_readBelt_89 rfl rfl rfl ?_
      refine ax_get (q := 93) (k := 0) (j := 17) (v := ax_r 11) dX12_readBelt_90 rfl shM_0 rfl rfl rfl (by decide) fl_X12_40 ?_
      refine ax_iconst (q := 94) dX12_readBelt_93 rfl ki_0 ?_
      refine ax_iconst (q := 95) dX12_readBelt_94 rfl ki_2 ?_
      refine ax_fg (lv2 := [some (ax_r 0), some (ax_i (1 : Int32)), none, none]) ⟨rfl, rfl, trivial⟩ ?_
      exact ax_callVcv (q := 98) (As := [ax_i rr, ax_r 11, ax_i (0 : Int32), ax_i (2 : Int32)]) (st := []) dX12_readBelt_95 rfl lk_X12_257 shM_0 rfl rfl rfl rfl (Nat.le_of_ble_eq_true rfl) (k15 c1 c8)
set_option maxRecDepth 20000 in
theorem s_X12_readBelt_277 {d : Nat} (hd : 1 ≤ d) {Q : Option ax_V → ax_S → Prop} (σ : ax_S) (rr : Int32) (k1 : (¬ rr = 0) → Q (some (ax_i (σ.1 0 4))) σ) (k2 : (¬ (¬ rr = 0)) → Q (some (ax_i (if (¬ (σ.1 0 4) = (-1 : Int32)) then (σ.1 0 4) else (σ.1 0 3)))) (ax_ui σ 0 4 (if (¬ (σ.1 0 4) = (-1 : Int32)) then (σ.1 0 4) else (σ.1 0 3)))) : ax_W shM (d + 1) mX12_readBelt Q 277 [some (ax_r 0), none, none, none] [ax_i rr] σ := by
  refine ax_if_ne (tgt := 284) (q := 280) dX12_readBelt_277 (by decide) rfl (fun c1 => ?_) (fun c1 => ?_)
  · refine ax_aload_n (q := 285) (i := 0) dX12_readBelt_284 rfl rfl rfl ?_
    refine ax_get (q := 288) (k := 0) (j := 4) (v := ax_i (σ.1 0 4)) dX12_readBelt_285 rfl shM_0 rfl rfl rfl (by decide) fl_X12_125 ?_
    exact ax_iret dX12_readBelt_288 rfl rfl (k1 c1)
  · refine ax_aload_n (q := 281) (i := 0) dX12_readBelt_280 rfl rfl rfl ?_
    refine ax_callVfv (q := 284) (As := []) (st := []) (σ2 := (ax_ui σ 0 4 (if (¬ (σ.1 0 4) = (-1 : Int32)) then (σ.1 0 4) else (σ.1 0 3)))) dX12_readBelt_281 rfl lk_X12_134 shM_0 rfl rfl rfl rfl (Nat.le_of_ble_eq_true rfl) (f_X12_bad σ   (d := d) (by omega)) ?_
    refine ax_aload_n (q := 285) (i := 0) dX12_readBelt_284 rfl rfl rfl ?_
    refine ax_get (q := 288) (k := 0) (j := 4) (v := ax_i (if (¬ (σ.1 0 4) = (-1 : Int32)) then (σ.1 0 4) else (σ.1 0 3))) dX12_readBelt_285 rfl shM_0 rfl rfl rfl (by decide) fl_X12_125 ?_
    exact ax_iret dX12_readBelt_288 rfl rfl (k2 c1)
set_option maxRecDepth 20000 in
theorem s_X12_readBelt_142 {d : Nat} (hd : 0 ≤ d) {Q : Option ax_V → ax_S → Prop} (σ : ax_S) (x1 : Int32) (k1 : ax_W shM (d + 1) mX12_readBelt Q 213 [some (ax_r 0), some (ax_i x1), none, none] [] (ax_ui σ 0 20 ((σ.1 0 20) + (1 : Int32)))) : ax_W shM (d + 1) mX12_readBelt Q 142 [some (ax_r 0), some (ax_i x1), none, none] [] σ := by
  refine ax_aload_n (q := 143) (i := 0) dX12_readBelt_142 rfl rfl rfl ?_
  refine ax_dupr (q := 144) dX12_readBelt_143 rfl ?_
  refine ax_get (q := 147) (k := 0) (j := 20) (v := ax_i (σ.1 0 20)) dX12_readBelt_144 rfl shM_0 rfl rfl rfl (by decide) fl_X12_247 ?_
  refine ax_iconst (q := 148) dX12_readBelt_147 rfl ki_1 ?_
  refine ax_iadd (q := 149) dX12_readBelt_148 rfl ?_
  refine ax_puti (q := 152) (k := 0) (j := 20) dX12_readBelt_149 rfl shM_0 rfl rfl (by decide) fl_X12_247 rfl rfl rfl rfl ?_
  refine ax_goto (tgt := 213) dX12_readBelt_152 (by decide) ?_
  exact k1
set_option maxRecDepth 20000 in
theorem s_X12_readBelt_196 {d : Nat} (hd : 0 ≤ d) {Q : Option ax_V → ax_S → Prop} (σ : ax_S) (x1 : Int32) (k1 : ax_W shM (d + 1) mX12_readBelt Q 213 [some (ax_r 0), some (ax_i x1), none, none] [] (ax_ui σ 0 21 ((σ.1 0 21) + (1 : Int32)))) : ax_W shM (d + 1) mX12_readBelt Q 196 [some (ax_r 0), some (ax_i x1), none, none] [] σ := by
  refine ax_aload_n (q := 197) (i := 0) dX12_readBelt_196 rfl rfl rfl ?_
  refine ax_dupr (q := 198) dX12_readBelt_197 rfl ?_
  refine ax_get (q := 201) (k := 0) (j := 21) (v := ax_i (σ.1 0 21)) dX12_readBelt_198 rfl shM_0 rfl rfl rfl (by decide) fl_X12_250 ?_
  refine ax_iconst (q := 202) dX12_readBelt_201 rfl ki_1 ?_
  refine ax_iadd (q := 203) dX12_readBelt_202 rfl ?_
  refine ax_puti (q := 206) (k := 0) (j := 21) dX12_readBelt_203 rfl shM_0 rfl rfl (by decide) fl_X12_250 rfl rfl rfl rfl ?_
  refine ax_goto (tgt := 213) dX12_readBelt_206 (by decide) ?_
  exact k1
set_option maxRecDepth 20000 in
theorem s_X12_readBelt_213 {d : Nat} (hd : 0 ≤ d) {Q : Option ax_V → ax_S → Prop} (σ : ax_S) (x1 : Int32) (k1 : (¬ (σ.1 0 4) = (-1 : Int32)) → ax_W shM (d + 1) mX12_readBelt Q 48 [some (ax_r 0), some (ax_i x1), some (ax_i (0 : Int32)), none] [] (ax_ui σ 0 3 ((σ.1 0 3) + (if (¬ ((0 : Int32) = 0)) then (1 : Int32) else 0)))) (k2 : (¬ (¬ (σ.1 0 4) = (-1 : Int32))) → ax_Ct shM d mX12_look [ax_r 0] (fun r u => ∃ x : Int32, r = some (ax_i x) ∧ ax_W shM (d + 1) mX12_readBelt Q 225 [some (ax_r 0), some (ax_i x1), none, none] (ax_i x :: []) u) σ) : ax_W shM (d + 1) mX12_readBelt Q 213 [some (ax_r 0), some (ax_i x1), none, none] [] σ := by
  refine ax_aload_n (q := 214) (i := 0) dX12_readBelt_213 rfl rfl rfl ?_
  refine ax_get (q := 217) (k := 0) (j := 4) (v := ax_i (σ.1 0 4)) dX12_readBelt_214 rfl shM_0 rfl rfl rfl (by decide) fl_X12_125 ?_
  refine ax_iconst (q := 218) dX12_readBelt_217 rfl ki_m1 ?_
  refine ax_icmp_ne (tgt := 234) (q := 221) dX12_readBelt_218 (by decide) rfl (fun c1 => ?_) (fun c1 => ?_)
  · refine ax_iconst (q := 235) dX12_readBelt_234 rfl ki_0 ?_
    refine ax_istore_n (q := 236) (i := 2) (lv2 := [some (ax_r 0), some (ax_i x1), some (ax_i (0 : Int32)), none]) dX12_readBelt_235 rfl rfl (by decide) rfl rfl ?_
    refine ax_aload_n (q := 237) (i := 0) dX12_readBelt_236 rfl rfl rfl ?_
    refine ax_dupr (q := 238) dX12_readBelt_237 rfl ?_
    refine ax_get (q := 241) (k := 0) (j := 3) (v := ax_i (σ.1 0 3)) dX12_readBelt_238 rfl shM_0 rfl rfl rfl (by decide) fl_X12_118 ?_
    refine ax_iload_n (q := 242) (i := 2) dX12_readBelt_241 rfl rfl rfl ?_
    have K3 : ax_W shM (d + 1) mX12_readBelt Q 250 [some (ax_r 0), some (ax_i x1), some (ax_i (0 : Int32)), none] [ax_i (if (¬ ((0 : Int32) = 0)) then (1 : Int32) else 0), ax_i (σ.1 0 3), ax_r 0] σ := by
      refine ax_iadd (q := 251) dX12_readBelt_250 rfl ?_
      refine ax_puti (q := 254) (k := 0) (j := 3) dX12_readBelt_251 rfl shM_0 rfl rfl (by decide) fl_X12_118 rfl rfl rfl rfl ?_
      refine ax_goto (tgt := 48) dX12_readBelt_254 (by decide) ?_
      exact (k1 c1)
    refine ax_if_eq (tgt := 249) (q := 245) dX12_readBelt_242 (by decide) rfl (fun c2 => ?_) (fun c2 => ?_)
    · refine ax_iconst (q := 250) dX12_readBelt_249 rfl ki_0 ?_
      exact ax_cv (if_neg (fun y => y c2)) K3
    · refine ax_iconst (q := 246) dX12_readBelt_245 rfl ki_1 ?_
      refine ax_goto (tgt := 250) dX12_readBelt_246 (by decide) ?_
      exact ax_cv (if_pos c2) K3
  · refine ax_aload_n (q := 222) (i := 0) dX12_readBelt_221 rfl rfl rfl ?_
    exact ax_callVci (q := 225) (As := []) (st := []) dX12_readBelt_222 rfl lk_X12_137 shM_0 rfl rfl rfl rfl (Nat.le_of_ble_eq_true rfl) (k2 c1)
set_option maxRecDepth 20000 in
theorem s_X12_readBelt_98 {d : Nat} (hd : 0 ≤ d) {Q : Option ax_V → ax_S → Prop} (σ : ax_S) (x1 : Int32) (k1 : ax_W shM (d + 1) mX12_readBelt Q 213 [some (ax_r 0), some (ax_i x1), none, none] [] σ) : ax_W shM (d + 1) mX12_readBelt Q 98 [some (ax_r 0), some (ax_i x1), none, none] [] σ := by
  refine ax_goto (tgt := 213) dX12_readBelt_98 (by decide) ?_
  exact k1
set_option maxRecDepth 20000 in
theorem s_X12_readBelt_225 {d : Nat} (hd : 0 ≤ d) {Q : Option ax_V → ax_S → Prop} (σ : ax_S) (x1 : Int32) (rr : Int32) (k1 : ax_W shM (d + 1) mX12_readBelt Q 48 [some (ax_r 0), some (ax_i x1), some (ax_i (if (¬ (¬ rr = (59 : Int32))) then (1 : Int32) else 0)), none] [] (ax_ui σ 0 3 ((σ.1 0 3) + (if (¬ (¬ rr = (59 : Int32))) then (1 : Int32) else 0)))) : ax_W shM (d + 1) mX12_readBelt Q 225 [some (ax_r 0), some (ax_i x1), none, none] [ax_i rr] σ := by
  refine ax_bipush (q := 227) dX12_readBelt_225 rfl kb_59 ?_
  have K2 : ax_W shM (d + 1) mX12_readBelt Q 235 [some (ax_r 0), some (ax_i x1), none, none] [ax_i (if (¬ (¬ rr = (59 : Int32))) then (1 : Int32) else 0)] σ := by
    refine ax_istore_n (q := 236) (i := 2) (lv2 := [some (ax_r 0), some (ax_i x1), some (ax_i (if (¬ (¬ rr = (59 : Int32))) then (1 : Int32) else 0)), none]) dX12_readBelt_235 rfl rfl (by decide) rfl rfl ?_
    refine ax_aload_n (q := 237) (i := 0) dX12_readBelt_236 rfl rfl rfl ?_
    refine ax_dupr (q := 238) dX12_readBelt_237 rfl ?_
    refine ax_get (q := 241) (k := 0) (j := 3) (v := ax_i (σ.1 0 3)) dX12_readBelt_238 rfl shM_0 rfl rfl rfl (by decide) fl_X12_118 ?_
    refine ax_iload_n (q := 242) (i := 2) dX12_readBelt_241 rfl rfl rfl ?_
    have K4 : ax_W shM (d + 1) mX12_readBelt Q 250 [some (ax_r 0), some (ax_i x1), some (ax_i (if (¬ (¬ rr = (59 : Int32))) then (1 : Int32) else 0)), none] [ax_i (if (¬ (¬ rr = (59 : Int32))) then (1 : Int32) else 0), ax_i (σ.1 0 3), ax_r 0] σ := by
      refine ax_iadd (q := 251) dX12_readBelt_250 rfl ?_
      refine ax_puti (q := 254) (k := 0) (j := 3) dX12_readBelt_251 rfl shM_0 rfl rfl (by decide) fl_X12_118 rfl rfl rfl rfl ?_
      refine ax_goto (tgt := 48) dX12_readBelt_254 (by decide) ?_
      exact k1
    refine ax_if_eqB (tgt := 249) (q := 245) dX12_readBelt_242 (by decide) rfl (fun c3 => ?_) (fun c3 => ?_)
    · refine ax_iconst (q := 250) dX12_readBelt_249 rfl ki_0 ?_
      exact ax_cv (if_neg c3) K4
    · refine ax_iconst (q := 246) dX12_readBelt_245 rfl ki_1 ?_
      refine ax_goto (tgt := 250) dX12_readBelt_246 (by decide) ?_
      exact ax_cv (if_pos c3) K4
  refine ax_icmp_ne (tgt := 234) (q := 230) dX12_readBelt_227 (by decide) rfl (fun c1 => ?_) (fun c1 => ?_)
  · refine ax_iconst (q := 235) dX12_readBelt_234 rfl ki_0 ?_
    exact ax_cv (if_neg (fun y => y c1)) K2
  · refine ax_iconst (q := 231) dX12_readBelt_230 rfl ki_1 ?_
    refine ax_goto (tgt := 235) dX12_readBelt_231 (by decide) ?_
    exact ax_cv (if_pos c1) K2
set_option maxRecDepth 20000 in
theorem s_X12_fault_0 {d : Nat} (hd : 0 ≤ d) {Q : Option ax_V → ax_S → Prop} (σ : ax_S) (a0 : Int32) (k1 : (¬ a0 = 0) → (¬ a0 = (1 : Int32)) → Q (some (ax_i (-2 : Int32))) σ) (k2 : (¬ a0 = 0) → (¬ (¬ a0 = (1 : Int32))) → ax_Ct shM d mX12_readLaw [ax_r 0, ax_i (4 : Int32)] (fun r u => ∃ x : Int32, r = some (ax_i x) ∧ ax_W shM (d + 1) mX12_fault Q 21 [none, none] (ax_i x :: []) u) σ) (k3 : (¬ (¬ a0 = 0)) → ax_Ct shM d mX12_readBelt [ax_r 0] (fun r u => ∃ x : Int32, r = some (ax_i x) ∧ ax_W shM (d + 1) mX12_fault Q 8 [none, none] (ax_i x :: []) u) σ) : ax_W shM (d + 1) mX12_fault Q 0 [some (ax_r 0), some (ax_i a0)] [] σ := by
  refine ax_iload_n (q := 1) (i := 1) dX12_fault_0 rfl rfl rfl ?_
  refine ax_if_ne (tgt := 11) (q := 4) dX12_fault_1 (by decide) rfl (fun c1 => ?_) (fun c1 => ?_)
  · refine ax_iload_n (q := 12) (i := 1) dX12_fault_11 rfl rfl rfl ?_
    refine ax_iconst (q := 13) dX12_fault_12 rfl ki_1 ?_
    refine ax_icmp_ne (tgt := 24) (q := 16) dX12_fault_13 (by decide) rfl (fun c2 => ?_) (fun c2 => ?_)
    · refine ax_bipush (q := 26) dX12_fault_24 rfl kb_m2 ?_
      exact ax_iret dX12_fault_26 rfl rfl (k1 c1 c2)
    · refine ax_aload_n (q := 17) (i := 0) dX12_fault_16 rfl rfl rfl ?_
      refine ax_iconst (q := 18) dX12_fault_17 rfl ki_4 ?_
      refine ax_fg (lv2 := [none, none]) trivial ?_
      exact ax_callVci (q := 21) (As := [ax_i (4 : Int32)]) (st := []) dX12_fault_18 rfl lk_X12_268 shM_0 rfl rfl rfl rfl (Nat.le_of_ble_eq_true rfl) (k2 c1 c2)
  · refine ax_aload_n (q := 5) (i := 0) dX12_fault_4 rfl rfl rfl ?_
    refine ax_fg (lv2 := [none, none]) trivial ?_
    exact ax_callVci (q := 8) (As := []) (st := []) dX12_fault_5 rfl lk_X12_265 shM_0 rfl rfl rfl rfl (Nat.le_of_ble_eq_true rfl) (k3 c1)
set_option maxRecDepth 20000 in
theorem s_X12_fault_21 {d : Nat} (hd : 0 ≤ d) {Q : Option ax_V → ax_S → Prop} (σ : ax_S) (rr : Int32) (k1 : Q (some (ax_i rr)) σ) : ax_W shM (d + 1) mX12_fault Q 21 [none, none] [ax_i rr] σ := by
  refine ax_goto (tgt := 26) dX12_fault_21 (by decide) ?_
  exact ax_iret dX12_fault_26 rfl rfl k1
set_option maxRecDepth 20000 in
theorem s_X12_fault_8 {d : Nat} (hd : 0 ≤ d) {Q : Option ax_V → ax_S → Prop} (σ : ax_S) (rr : Int32) (k1 : Q (some (ax_i rr)) σ) : ax_W shM (d + 1) mX12_fault Q 8 [none, none] [ax_i rr] σ := by
  refine ax_goto (tgt := 26) dX12_fault_8 (by decide) ?_
  exact ax_iret dX12_fault_26 rfl rfl k1
set_option maxRecDepth 20000 in
theorem f_X12_of (σ : ax_S) (a0 : Int32) (a1 : Int32) (h1 : vp_in (((4 : Int32) * a0) + a1) 32) {d : Nat} (hd : 1 ≤ d) : ax_Ct shM d mX12_of [ax_r 0, ax_i a0, ax_i a1] (fun r u => r = some (ax_i (σ.1 14 (Int32.toNatClampNeg (((4 : Int32) * a0) + a1)))) ∧ u = σ) σ := by
  obtain ⟨d, rfl⟩ : ∃ e, d = e + 1 := ⟨d - 1, by omega⟩
  refine ax_Ct.of (lv := [some (ax_r 0), some (ax_i a0), some (ax_i a1)]) (by decide +kernel) (fun ad => Nat.le_of_ble_eq_true rfl) (fun ad => rfl) ?_
  refine ax_aload_n (q := 1) (i := 0) dX12_of_0 rfl rfl rfl ?_
  refine ax_get (q := 4) (k := 0) (j := 22) (v := ax_r 14) dX12_of_1 rfl shM_0 rfl rfl rfl (by decide) fl_X12_49 ?_
  refine ax_iconst (q := 5) dX12_of_4 rfl ki_4 ?_
  refine ax_iload_n (q := 6) (i := 1) dX12_of_5 rfl rfl rfl ?_
  refine ax_imul (q := 7) dX12_of_6 rfl ?_
  refine ax_iload_n (q := 8) (i := 2) dX12_of_7 rfl rfl rfl ?_
  refine ax_iadd (q := 9) dX12_of_8 rfl ?_
  refine ax_iald (q := 10) (a := (Int32.toNatClampNeg (((4 : Int32) * a0) + a1))) (v := (σ.1 14 (Int32.toNatClampNeg (((4 : Int32) * a0) + a1)))) dX12_of_9 rfl shM_14 h1 rfl rfl ?_
  exact ax_iret dX12_of_10 rfl rfl ⟨rfl, rfl⟩
set_option maxRecDepth 20000 in
theorem f_X12_putWire (σ : ax_S) (a0 : Int32) (a1 : Int32) (a2 : Int32) (h1 : vp_in (((16 : Int32) + ((4 : Int32) * a0)) + a1) 268) {d : Nat} (hd : 1 ≤ d) : ax_Ct shM d mX12_putWire [ax_r 0, ax_i a0, ax_i a1, ax_i a2] (fun r u => r = none ∧ u = (ax_ui σ 15 (Int32.toNatClampNeg (((16 : Int32) + ((4 : Int32) * a0)) + a1)) a2)) σ := by
  obtain ⟨d, rfl⟩ : ∃ e, d = e + 1 := ⟨d - 1, by omega⟩
  refine ax_Ct.of (lv := [some (ax_r 0), some (ax_i a0), some (ax_i a1), some (ax_i a2)]) (by decide +kernel) (fun ad => Nat.le_of_ble_eq_true rfl) (fun ad => rfl) ?_
  refine ax_aload_n (q := 1) (i := 0) dX12_putWire_0 rfl rfl rfl ?_
  refine ax_get (q := 4) (k := 0) (j := 25) (v := ax_r 15) dX12_putWire_1 rfl shM_0 rfl rfl rfl (by decide) fl_X12_52 ?_
  refine ax_bipush (q := 6) dX12_putWire_4 rfl kb_16 ?_
  refine ax_iconst (q := 7) dX12_putWire_6 rfl ki_4 ?_
  refine ax_iload_n (q := 8) (i := 1) dX12_putWire_7 rfl rfl rfl ?_
  refine ax_imul (q := 9) dX12_putWire_8 rfl ?_
  refine ax_iadd (q := 10) dX12_putWire_9 rfl ?_
  refine ax_iload_n (q := 11) (i := 2) dX12_putWire_10 rfl rfl rfl ?_
  refine ax_iadd (q := 12) dX12_putWire_11 rfl ?_
  refine ax_iload_n (q := 13) (i := 3) dX12_putWire_12 rfl rfl rfl ?_
  refine ax_iast (q := 14) (a := (Int32.toNatClampNeg (((16 : Int32) + ((4 : Int32) * a0)) + a1))) dX12_putWire_13 rfl shM_15 h1 rfl ?_
  exact ax_vret dX12_putWire_14 rfl ⟨rfl, rfl⟩
set_option maxRecDepth 20000 in
theorem f_X12_string (σ : ax_S) (a0 : Int32) (a1 : Int32) (a2 : Int32) (h1 : vp_in (84 : Int32) 268) (h2 : vp_in (((16 : Int32) + ((4 : Int32) * (σ.1 15 84))) + (0 : Int32)) 268) (h3 : vp_in (((16 : Int32) + ((4 : Int32) * (σ.1 15 84))) + (1 : Int32)) 268) (h4 : vp_in (((16 : Int32) + ((4 : Int32) * (σ.1 15 84))) + (2 : Int32)) 268) (h5 : vp_in (((16 : Int32) + ((4 : Int32) * (σ.1 15 84))) + (3 : Int32)) 268) {d : Nat} (hd : 2 ≤ d) : ax_Ct shM d mX12_string [ax_r 0, ax_i a0, ax_i a1, ax_i a2] (fun r u => r = some (ax_i (σ.1 15 84)) ∧ u = (ax_ui (ax_ui (ax_ui (ax_ui (ax_ui σ 15 84 ((σ.1 15 84) + (1 : Int32))) 15 (Int32.toNatClampNeg (((16 : Int32) + ((4 : Int32) * (σ.1 15 84))) + (0 : Int32))) a0) 15 (Int32.toNatClampNeg (((16 : Int32) + ((4 : Int32) * (σ.1 15 84))) + (1 : Int32))) a1) 15 (Int32.toNatClampNeg (((16 : Int32) + ((4 : Int32) * (σ.1 15 84))) + (2 : Int32))) a2) 15 (Int32.toNatClampNeg (((16 : Int32) + ((4 : Int32) * (σ.1 15 84))) + (3 : Int32))) (0 : Int32))) σ := by
  obtain ⟨d, rfl⟩ : ∃ e, d = e + 1 := ⟨d - 1, by omega⟩
  refine ax_Ct.of (lv := [some (ax_r 0), some (ax_i a0), some (ax_i a1), some (ax_i a2), none]) (by decide +kernel) (fun ad => Nat.le_of_ble_eq_true rfl) (fun ad => rfl) ?_
  refine ax_aload_n (q := 1) (i := 0) dX12_string_0 rfl rfl rfl ?_
  refine ax_get (q := 4) (k := 0) (j := 25) (v := ax_r 15) dX12_string_1 rfl shM_0 rfl rfl rfl (by decide) fl_X12_52 ?_
  refine ax_bipush (q := 6) dX12_string_4 rfl kb_84 ?_
  refine ax_iald (q := 7) (a := 84) (v := (σ.1 15 84)) dX12_string_6 rfl shM_15 h1 rfl rfl ?_
  refine ax_istore (q := 9) (lv2 := [some (ax_r 0), some (ax_i a0), some (ax_i a1), some (ax_i a2), some (ax_i (σ.1 15 84))]) dX12_string_7 rfl (by decide) rfl rfl ?_
  refine ax_aload_n (q := 10) (i := 0) dX12_string_9 rfl rfl rfl ?_
  refine ax_get (q := 13) (k := 0) (j := 25) (v := ax_r 15) dX12_string_10 rfl shM_0 rfl rfl rfl (by decide) fl_X12_52 ?_
  refine ax_bipush (q := 15) dX12_string_13 rfl kb_84 ?_
  refine ax_dup2_11 (q := 16) dX12_string_15 rfl ?_
  refine ax_iald (q := 17) (a := 84) (v := (σ.1 15 84)) dX12_string_16 rfl shM_15 h1 rfl rfl ?_
  refine ax_iconst (q := 18) dX12_string_17 rfl ki_1 ?_
  refine ax_iadd (q := 19) dX12_string_18 rfl ?_
  refine ax_iast (q := 20) (a := 84) dX12_string_19 rfl shM_15 h1 rfl ?_
  refine ax_aload_n (q := 21) (i := 0) dX12_string_20 rfl rfl rfl ?_
  refine ax_iload (q := 23) dX12_string_21 rfl rfl ?_
  refine ax_iconst (q := 24) dX12_string_23 rfl ki_0 ?_
  refine ax_iload_n (q := 25) (i := 1) dX12_string_24 rfl rfl rfl ?_
  refine ax_callVfv (q := 28) (As := [ax_i (σ.1 15 84), ax_i (0 : Int32), ax_i a0]) (st := []) (σ2 := (ax_ui (ax_ui σ 15 84 ((σ.1 15 84) + (1 : Int32))) 15 (Int32.toNatClampNeg (((16 : Int32) + ((4 : Int32) * (σ.1 15 84))) + (0 : Int32))) a0)) dX12_string_25 rfl lk_X12_302 shM_0 rfl rfl rfl rfl (Nat.le_of_ble_eq_true rfl) (f_X12_putWire (ax_ui σ 15 84 ((σ.1 15 84) + (1 : Int32))) (σ.1 15 84) (0 : Int32) a0 h2 (d := d) (by omega)) ?_
  refine ax_aload_n (q := 29) (i := 0) dX12_string_28 rfl rfl rfl ?_
  refine ax_iload (q := 31) dX12_string_29 rfl rfl ?_
  refine ax_iconst (q := 32) dX12_string_31 rfl ki_1 ?_
  refine ax_iload_n (q := 33) (i := 2) dX12_string_32 rfl rfl rfl ?_
  refine ax_callVfv (q := 36) (As := [ax_i (σ.1 15 84), ax_i (1 : Int32), ax_i a1]) (st := []) (σ2 := (ax_ui (ax_ui (ax_ui σ 15 84 ((σ.1 15 84) + (1 : Int32))) 15 (Int32.toNatClampNeg (((16 : Int32) + ((4 : Int32) * (σ.1 15 84))) + (0 : Int32))) a0) 15 (Int32.toNatClampNeg (((16 : Int32) + ((4 : Int32) * (σ.1 15 84))) + (1 : Int32))) a1)) dX12_string_33 rfl lk_X12_302 shM_0 rfl rfl rfl rfl (Nat.le_of_ble_eq_true rfl) (f_X12_putWire (ax_ui (ax_ui σ 15 84 ((σ.1 15 84) + (1 : Int32))) 15 (Int32.toNatClampNeg (((16 : Int32) + ((4 : Int32) * (σ.1 15 84))) + (0 : Int32))) a0) (σ.1 15 84) (1 : Int32) a1 h3 (d := d) (by omega)) ?_
  refine ax_aload_n (q := 37) (i := 0) dX12_string_36 rfl rfl rfl ?_
  refine ax_iload (q := 39) dX12_string_37 rfl rfl ?_
  refine ax_iconst (q := 40) dX12_string_39 rfl ki_2 ?_
  refine ax_iload_n (q := 41) (i := 3) dX12_string_40 rfl rfl rfl ?_
  refine ax_callVfv (q := 44) (As := [ax_i (σ.1 15 84), ax_i (2 : Int32), ax_i a2]) (st := []) (σ2 := (ax_ui (ax_ui (ax_ui (ax_ui σ 15 84 ((σ.1 15 84) + (1 : Int32))) 15 (Int32.toNatClampNeg (((16 : Int32) + ((4 : Int32) * (σ.1 15 84))) + (0 : Int32))) a0) 15 (Int32.toNatClampNeg (((16 : Int32) + ((4 : Int32) * (σ.1 15 84))) + (1 : Int32))) a1) 15 (Int32.toNatClampNeg (((16 : Int32) + ((4 : Int32) * (σ.1 15 84))) + (2 : Int32))) a2)) dX12_string_41 rfl lk_X12_302 shM_0 rfl rfl rfl rfl (Nat.le_of_ble_eq_true rfl) (f_X12_putWire (ax_ui (ax_ui (ax_ui σ 15 84 ((σ.1 15 84) + (1 : Int32))) 15 (Int32.toNatClampNeg (((16 : Int32) + ((4 : Int32) * (σ.1 15 84))) + (0 : Int32))) a0) 15 (Int32.toNatClampNeg (((16 : Int32) + ((4 : Int32) * (σ.1 15 84))) + (1 : Int32))) a1) (σ.1 15 84) (2 : Int32) a2 h4 (d := d) (by omega)) ?_
  refine ax_aload_n (q := 45) (i := 0) dX12_string_44 rfl rfl rfl ?_
  refine ax_iload (q := 47) dX12_string_45 rfl rfl ?_
  refine ax_iconst (q := 48) dX12_string_47 rfl ki_3 ?_
  refine ax_iconst (q := 49) dX12_string_48 rfl ki_0 ?_
  refine ax_callVfv (q := 52) (As := [ax_i (σ.1 15 84), ax_i (3 : Int32), ax_i (0 : Int32)]) (st := []) (σ2 := (ax_ui (ax_ui (ax_ui (ax_ui (ax_ui σ 15 84 ((σ.1 15 84) + (1 : Int32))) 15 (Int32.toNatClampNeg (((16 : Int32) + ((4 : Int32) * (σ.1 15 84))) + (0 : Int32))) a0) 15 (Int32.toNatClampNeg (((16 : Int32) + ((4 : Int32) * (σ.1 15 84))) + (1 : Int32))) a1) 15 (Int32.toNatClampNeg (((16 : Int32) + ((4 : Int32) * (σ.1 15 84))) + (2 : Int32))) a2) 15 (Int32.toNatClampNeg (((16 : Int32) + ((4 : Int32) * (σ.1 15 84))) + (3 : Int32))) (0 : Int32))) dX12_string_49 rfl lk_X12_302 shM_0 rfl rfl rfl rfl (Nat.le_of_ble_eq_true rfl) (f_X12_putWire (ax_ui (ax_ui (ax_ui (ax_ui σ 15 84 ((σ.1 15 84) + (1 : Int32))) 15 (Int32.toNatClampNeg (((16 : Int32) + ((4 : Int32) * (σ.1 15 84))) + (0 : Int32))) a0) 15 (Int32.toNatClampNeg (((16 : Int32) + ((4 : Int32) * (σ.1 15 84))) + (1 : Int32))) a1) 15 (Int32.toNatClampNeg (((16 : Int32) + ((4 : Int32) * (σ.1 15 84))) + (2 : Int32))) a2) (σ.1 15 84) (3 : Int32) (0 : Int32) h5 (d := d) (by omega)) ?_
  refine ax_iload (q := 54) dX12_string_52 rfl rfl ?_
  exact ax_iret dX12_string_54 rfl rfl ⟨rfl, rfl⟩
set_option maxRecDepth 20000 in
theorem s_X12_takeBelt_0 {d : Nat} (hd : 0 ≤ d) {Q : Option ax_V → ax_S → Prop} (σ : ax_S)  (k1 : ax_W shM (d + 1) mX12_takeBelt Q 20 [some (ax_r 0), some (ax_i (0 : Int32))] [] (ax_ui (ax_ui σ 0 23 (σ.1 0 20)) 0 24 (σ.1 11 1))) : ax_W shM (d + 1) mX12_takeBelt Q 0 [some (ax_r 0), none] [] σ := by
  refine ax_aload_n (q := 1) (i := 0) dX12_takeBelt_0 rfl rfl rfl ?_
  refine ax_aload_n (q := 2) (i := 0) dX12_takeBelt_1 rfl rfl rfl ?_
  refine ax_get (q := 5) (k := 0) (j := 20) (v := ax_i (σ.1 0 20)) dX12_takeBelt_2 rfl shM_0 rfl rfl rfl (by decide) fl_X12_247 ?_
  refine ax_puti (q := 8) (k := 0) (j := 23) dX12_takeBelt_5 rfl shM_0 rfl rfl (by decide) fl_X12_271 rfl rfl rfl rfl ?_
  refine ax_aload_n (q := 9) (i := 0) dX12_takeBelt_8 rfl rfl rfl ?_
  refine ax_aload_n (q := 10) (i := 0) dX12_takeBelt_9 rfl rfl rfl ?_
  refine ax_get (q := 13) (k := 0) (j := 17) (v := ax_r 11) dX12_takeBelt_10 rfl shM_0 rfl rfl rfl (by decide) fl_X12_40 ?_
  refine ax_iconst (q := 14) dX12_takeBelt_13 rfl ki_1 ?_
  refine ax_iald (q := 15) (a := 1) (v := (σ.1 11 1)) dX12_takeBelt_14 rfl shM_11 (ax_inl 1 2 (by decide) (by decide)) rfl rfl ?_
  refine ax_puti (q := 18) (k := 0) (j := 24) dX12_takeBelt_15 rfl shM_0 rfl rfl (by decide) fl_X12_274 rfl rfl rfl rfl ?_
  refine ax_iconst (q := 19) dX12_takeBelt_18 rfl ki_0 ?_
  refine ax_istore_n (q := 20) (i := 1) (lv2 := [some (ax_r 0), some (ax_i (0 : Int32))]) dX12_takeBelt_19 rfl rfl (by decide) rfl rfl ?_
  exact k1
set_option maxRecDepth 20000 in
theorem s_X12_takeBelt_20 {d : Nat} (hd : 0 ≤ d) {Q : Option ax_V → ax_S → Prop} (σ : ax_S) (x1 : Int32) (k1 : ((32 : Int32) ≤ x1) → ax_W shM (d + 1) mX12_takeBelt Q 46 [some (ax_r 0), some (ax_i (0 : Int32))] [] σ) (h2 : (¬ ((32 : Int32) ≤ x1)) → vp_in x1 32) (k3 : (¬ ((32 : Int32) ≤ x1)) → ax_W shM (d + 1) mX12_takeBelt Q 20 [some (ax_r 0), some (ax_i (x1 + (1 : Int32)))] [] (ax_ui σ 14 (Int32.toNatClampNeg x1) (σ.1 12 (Int32.toNatClampNeg x1)))) : ax_W shM (d + 1) mX12_takeBelt Q 20 [some (ax_r 0), some (ax_i x1)] [] σ := by
  refine ax_iload_n (q := 21) (i := 1) dX12_takeBelt_20 rfl rfl rfl ?_
  refine ax_bipush (q := 23) dX12_takeBelt_21 rfl kb_32 ?_
  refine ax_icmp_ge (tgt := 44) (q := 26) dX12_takeBelt_23 (by decide) rfl (fun c1 => ?_) (fun c1 => ?_)
  · refine ax_iconst (q := 45) dX12_takeBelt_44 rfl ki_0 ?_
    refine ax_istore_n (q := 46) (i := 1) (lv2 := [some (ax_r 0), some (ax_i (0 : Int32))]) dX12_takeBelt_45 rfl rfl (by decide) rfl rfl ?_
    exact (k1 c1)
  · refine ax_aload_n (q := 27) (i := 0) dX12_takeBelt_26 rfl rfl rfl ?_
    refine ax_get (q := 30) (k := 0) (j := 22) (v := ax_r 14) dX12_takeBelt_27 rfl shM_0 rfl rfl rfl (by decide) fl_X12_49 ?_
    refine ax_iload_n (q := 31) (i := 1) dX12_takeBelt_30 rfl rfl rfl ?_
    refine ax_aload_n (q := 32) (i := 0) dX12_takeBelt_31 rfl rfl rfl ?_
    refine ax_get (q := 35) (k := 0) (j := 18) (v := ax_r 12) dX12_takeBelt_32 rfl shM_0 rfl rfl rfl (by decide) fl_X12_43 ?_
    refine ax_iload_n (q := 36) (i := 1) dX12_takeBelt_35 rfl rfl rfl ?_
    refine ax_iald (q := 37) (a := (Int32.toNatClampNeg x1)) (v := (σ.1 12 (Int32.toNatClampNeg x1))) dX12_takeBelt_36 rfl shM_12 (h2 c1) rfl rfl ?_
    refine ax_iast (q := 38) (a := (Int32.toNatClampNeg x1)) dX12_takeBelt_37 rfl shM_14 (h2 c1) rfl ?_
    refine ax_iincK (q := 41) (lv2 := [some (ax_r 0), some (ax_i (x1 + (1 : Int32)))]) dX12_takeBelt_38 rfl rfl ki_1 (by decide) rfl rfl ?_
    refine ax_goto (tgt := 20) dX12_takeBelt_41 (by decide) ?_
    exact (k3 c1)
set_option maxRecDepth 20000 in
theorem s_X12_takeBelt_46 {d : Nat} (hd : 0 ≤ d) {Q : Option ax_V → ax_S → Prop} (σ : ax_S) (x1 : Int32) (k1 : ((268 : Int32) ≤ x1) → ax_W shM (d + 1) mX12_takeBelt Q 68 [some (ax_r 0), some (ax_i (0 : Int32))] [] σ) (h2 : (¬ ((268 : Int32) ≤ x1)) → vp_in x1 268) (k3 : (¬ ((268 : Int32) ≤ x1)) → ax_W shM (d + 1) mX12_takeBelt Q 46 [some (ax_r 0), some (ax_i (x1 + (1 : Int32)))] [] (ax_ui σ 15 (Int32.toNatClampNeg x1) (0 : Int32))) : ax_W shM (d + 1) mX12_takeBelt Q 46 [some (ax_r 0), some (ax_i x1)] [] σ := by
  refine ax_iload_n (q := 47) (i := 1) dX12_takeBelt_46 rfl rfl rfl ?_
  refine ax_sipush (q := 50) dX12_takeBelt_47 rfl ks_268 ?_
  refine ax_icmp_ge (tgt := 66) (q := 53) dX12_takeBelt_50 (by decide) rfl (fun c1 => ?_) (fun c1 => ?_)
  · refine ax_iconst (q := 67) dX12_takeBelt_66 rfl ki_0 ?_
    refine ax_istore_n (q := 68) (i := 1) (lv2 := [some (ax_r 0), some (ax_i (0 : Int32))]) dX12_takeBelt_67 rfl rfl (by decide) rfl rfl ?_
    exact (k1 c1)
  · refine ax_aload_n (q := 54) (i := 0) dX12_takeBelt_53 rfl rfl rfl ?_
    refine ax_get (q := 57) (k := 0) (j := 25) (v := ax_r 15) dX12_takeBelt_54 rfl shM_0 rfl rfl rfl (by decide) fl_X12_52 ?_
    refine ax_iload_n (q := 58) (i := 1) dX12_takeBelt_57 rfl rfl rfl ?_
    refine ax_iconst (q := 59) dX12_takeBelt_58 rfl ki_0 ?_
    refine ax_iast (q := 60) (a := (Int32.toNatClampNeg x1)) dX12_takeBelt_59 rfl shM_15 (h2 c1) rfl ?_
    refine ax_iincK (q := 63) (lv2 := [some (ax_r 0), some (ax_i (x1 + (1 : Int32)))]) dX12_takeBelt_60 rfl rfl ki_1 (by decide) rfl rfl ?_
    refine ax_goto (tgt := 46) dX12_takeBelt_63 (by decide) ?_
    exact (k3 c1)
set_option maxRecDepth 20000 in
theorem s_X12_takeBelt_68 {d : Nat} (hd : 1 ≤ d) {Q : Option ax_V → ax_S → Prop} (σ : ax_S) (x1 : Int32) (k1 : ((σ.1 0 23) ≤ x1) → ax_W shM (d + 1) mX12_takeBelt Q 111 [some (ax_r 0), some (ax_i (0 : Int32))] [] (ax_ui σ 15 85 (σ.1 11 0))) (h2 : (¬ ((σ.1 0 23) ≤ x1)) → vp_in (((4 : Int32) * x1) + (2 : Int32)) 32) (h3 : (¬ ((σ.1 0 23) ≤ x1)) → vp_in ((0 : Int32) + x1) 268) (k4 : (¬ ((σ.1 0 23) ≤ x1)) → ax_W shM (d + 1) mX12_takeBelt Q 68 [some (ax_r 0), some (ax_i (x1 + (1 : Int32)))] [] (ax_ui σ 15 (Int32.toNatClampNeg ((0 : Int32) + x1)) (σ.1 14 (Int32.toNatClampNeg (((4 : Int32) * x1) + (2 : Int32)))))) : ax_W shM (d + 1) mX12_takeBelt Q 68 [some (ax_r 0), some (ax_i x1)] [] σ := by
  refine ax_iload_n (q := 69) (i := 1) dX12_takeBelt_68 rfl rfl rfl ?_
  refine ax_aload_n (q := 70) (i := 0) dX12_takeBelt_69 rfl rfl rfl ?_
  refine ax_get (q := 73) (k := 0) (j := 23) (v := ax_i (σ.1 0 23)) dX12_takeBelt_70 rfl shM_0 rfl rfl rfl (by decide) fl_X12_271 ?_
  refine ax_icmp_ge (tgt := 96) (q := 76) dX12_takeBelt_73 (by decide) rfl (fun c1 => ?_) (fun c1 => ?_)
  · refine ax_aload_n (q := 97) (i := 0) dX12_takeBelt_96 rfl rfl rfl ?_
    refine ax_get (q := 100) (k := 0) (j := 25) (v := ax_r 15) dX12_takeBelt_97 rfl shM_0 rfl rfl rfl (by decide) fl_X12_52 ?_
    refine ax_bipush (q := 102) dX12_takeBelt_100 rfl kb_85 ?_
    refine ax_aload_n (q := 103) (i := 0) dX12_takeBelt_102 rfl rfl rfl ?_
    refine ax_get (q := 106) (k := 0) (j := 17) (v := ax_r 11) dX12_takeBelt_103 rfl shM_0 rfl rfl rfl (by decide) fl_X12_40 ?_
    refine ax_iconst (q := 107) dX12_takeBelt_106 rfl ki_0 ?_
    refine ax_iald (q := 108) (a := 0) (v := (σ.1 11 0)) dX12_takeBelt_107 rfl shM_11 (ax_inl 0 2 (by decide) (by decide)) rfl rfl ?_
    refine ax_iast (q := 109) (a := 85) dX12_takeBelt_108 rfl shM_15 (ax_inl 85 268 (by decide) (by decide)) rfl ?_
    refine ax_iconst (q := 110) dX12_takeBelt_109 rfl ki_0 ?_
    refine ax_istore_n (q := 111) (i := 1) (lv2 := [some (ax_r 0), some (ax_i (0 : Int32))]) dX12_takeBelt_110 rfl rfl (by decide) rfl rfl ?_
    exact (k1 c1)
  · refine ax_aload_n (q := 77) (i := 0) dX12_takeBelt_76 rfl rfl rfl ?_
    refine ax_get (q := 80) (k := 0) (j := 25) (v := ax_r 15) dX12_takeBelt_77 rfl shM_0 rfl rfl rfl (by decide) fl_X12_52 ?_
    refine ax_iconst (q := 81) dX12_takeBelt_80 rfl ki_0 ?_
    refine ax_iload_n (q := 82) (i := 1) dX12_takeBelt_81 rfl rfl rfl ?_
    refine ax_iadd (q := 83) dX12_takeBelt_82 rfl ?_
    refine ax_aload_n (q := 84) (i := 0) dX12_takeBelt_83 rfl rfl rfl ?_
    refine ax_iload_n (q := 85) (i := 1) dX12_takeBelt_84 rfl rfl rfl ?_
    refine ax_iconst (q := 86) dX12_takeBelt_85 rfl ki_2 ?_
    refine ax_callVfi (q := 89) (As := [ax_i x1, ax_i (2 : Int32)]) (st := [ax_i ((0 : Int32) + x1), ax_r 15]) (x := (σ.1 14 (Int32.toNatClampNeg (((4 : Int32) * x1) + (2 : Int32))))) (σ2 := σ) dX12_takeBelt_86 rfl lk_X12_277 shM_0 rfl rfl rfl rfl (Nat.le_of_ble_eq_true rfl) (f_X12_of σ x1 (2 : Int32) (h2 c1) (d := d) (by omega)) ?_
    refine ax_iast (q := 90) (a := (Int32.toNatClampNeg ((0 : Int32) + x1))) dX12_takeBelt_89 rfl shM_15 (h3 c1) rfl ?_
    refine ax_iincK (q := 93) (lv2 := [some (ax_r 0), some (ax_i (x1 + (1 : Int32)))]) dX12_takeBelt_90 rfl rfl ki_1 (by decide) rfl rfl ?_
    refine ax_goto (tgt := 68) dX12_takeBelt_93 (by decide) ?_
    exact (k4 c1)
set_option maxRecDepth 20000 in
theorem s_X12_takeBelt_111 {d : Nat} (hd : 2 ≤ d) {Q : Option ax_V → ax_S → Prop} (σ : ax_S) (x1 : Int32) (k1 : ((σ.1 0 21) ≤ x1) → Q (some (ax_i (σ.1 0 23))) (ax_ui (ax_ui (ax_ui (ax_ui σ 0 46 (0 : Int32)) 0 50 (0 : Int32)) 0 37 (0 : Int32)) 0 52 (0 : Int32))) (h2 : (¬ ((σ.1 0 21) ≤ x1)) → vp_in ((3 : Int32) * x1) 24) (h3 : (¬ ((σ.1 0 21) ≤ x1)) → vp_in (((3 : Int32) * x1) + (1 : Int32)) 24) (h4 : (¬ ((σ.1 0 21) ≤ x1)) → vp_in (((3 : Int32) * x1) + (2 : Int32)) 24) (h5 : (¬ ((σ.1 0 21) ≤ x1)) → vp_in (((16 : Int32) + ((4 : Int32) * (σ.1 15 84))) + (0 : Int32)) 268) (h6 : (¬ ((σ.1 0 21) ≤ x1)) → vp_in (((16 : Int32) + ((4 : Int32) * (σ.1 15 84))) + (1 : Int32)) 268) (h7 : (¬ ((σ.1 0 21) ≤ x1)) → vp_in (((16 : Int32) + ((4 : Int32) * (σ.1 15 84))) + (2 : Int32)) 268) (h8 : (¬ ((σ.1 0 21) ≤ x1)) → vp_in (((16 : Int32) + ((4 : Int32) * (σ.1 15 84))) + (3 : Int32)) 268) (k9 : (¬ ((σ.1 0 21) ≤ x1)) → ax_W shM (d + 1) mX12_takeBelt Q 111 [some (ax_r 0), some (ax_i (x1 + (1 : Int32)))] [] (ax_ui (ax_ui (ax_ui (ax_ui (ax_ui σ 15 84 ((σ.1 15 84) + (1 : Int32))) 15 (Int32.toNatClampNeg (((16 : Int32) + ((4 : Int32) * (σ.1 15 84))) + (0 : Int32))) (σ.1 13 (Int32.toNatClampNeg ((3 : Int32) * x1)))) 15 (Int32.toNatClampNeg (((16 : Int32) + ((4 : Int32) * (σ.1 15 84))) + (1 : Int32))) (σ.1 13 (Int32.toNatClampNeg (((3 : Int32) * x1) + (1 : Int32))))) 15 (Int32.toNatClampNeg (((16 : Int32) + ((4 : Int32) * (σ.1 15 84))) + (2 : Int32))) (σ.1 13 (Int32.toNatClampNeg (((3 : Int32) * x1) + (2 : Int32))))) 15 (Int32.toNatClampNeg (((16 : Int32) + ((4 : Int32) * (σ.1 15 84))) + (3 : Int32))) (0 : Int32))) : ax_W shM (d + 1) mX12_takeBelt Q 111 [some (ax_r 0), some (ax_i x1)] [] σ := by
  refine ax_iload_n (q := 112) (i := 1) dX12_takeBelt_111 rfl rfl rfl ?_
  refine ax_aload_n (q := 113) (i := 0) dX12_takeBelt_112 rfl rfl rfl ?_
  refine ax_get (q := 116) (k := 0) (j := 21) (v := ax_i (σ.1 0 21)) dX12_takeBelt_113 rfl shM_0 rfl rfl rfl (by decide) fl_X12_250 ?_
  refine ax_icmp_ge (tgt := 158) (q := 119) dX12_takeBelt_116 (by decide) rfl (fun c1 => ?_) (fun c1 => ?_)
  · refine ax_aload_n (q := 159) (i := 0) dX12_takeBelt_158 rfl rfl rfl ?_
    refine ax_iconst (q := 160) dX12_takeBelt_159 rfl ki_0 ?_
    refine ax_puti (q := 163) (k := 0) (j := 46) dX12_takeBelt_160 rfl shM_0 rfl rfl (by decide) fl_X12_283 rfl rfl rfl rfl ?_
    refine ax_aload_n (q := 164) (i := 0) dX12_takeBelt_163 rfl rfl rfl ?_
    refine ax_iconst (q := 165) dX12_takeBelt_164 rfl ki_0 ?_
    refine ax_puti (q := 168) (k := 0) (j := 50) dX12_takeBelt_165 rfl shM_0 rfl rfl (by decide) fl_X12_286 rfl rfl rfl rfl ?_
    refine ax_aload_n (q := 169) (i := 0) dX12_takeBelt_168 rfl rfl rfl ?_
    refine ax_iconst (q := 170) dX12_takeBelt_169 rfl ki_0 ?_
    refine ax_puti (q := 173) (k := 0) (j := 37) dX12_takeBelt_170 rfl shM_0 rfl rfl (by decide) fl_X12_289 rfl rfl rfl rfl ?_
    refine ax_aload_n (q := 174) (i := 0) dX12_takeBelt_173 rfl rfl rfl ?_
    refine ax_iconst (q := 175) dX12_takeBelt_174 rfl ki_0 ?_
    refine ax_puti (q := 178) (k := 0) (j := 52) dX12_takeBelt_175 rfl shM_0 rfl rfl (by decide) fl_X12_292 rfl rfl rfl rfl ?_
    refine ax_aload_n (q := 179) (i := 0) dX12_takeBelt_178 rfl rfl rfl ?_
    refine ax_get (q := 182) (k := 0) (j := 23) (v := ax_i (σ.1 0 23)) dX12_takeBelt_179 rfl shM_0 rfl rfl rfl (by decide) fl_X12_271 ?_
    exact ax_iret dX12_takeBelt_182 rfl rfl (k1 c1)
  · refine ax_aload_n (q := 120) (i := 0) dX12_takeBelt_119 rfl rfl rfl ?_
    refine ax_aload_n (q := 121) (i := 0) dX12_takeBelt_120 rfl rfl rfl ?_
    refine ax_get (q := 124) (k := 0) (j := 19) (v := ax_r 13) dX12_takeBelt_121 rfl shM_0 rfl rfl rfl (by decide) fl_X12_46 ?_
    refine ax_iconst (q := 125) dX12_takeBelt_124 rfl ki_3 ?_
    refine ax_iload_n (q := 126) (i := 1) dX12_takeBelt_125 rfl rfl rfl ?_
    refine ax_imul (q := 127) dX12_takeBelt_126 rfl ?_
    refine ax_iald (q := 128) (a := (Int32.toNatClampNeg ((3 : Int32) * x1))) (v := (σ.1 13 (Int32.toNatClampNeg ((3 : Int32) * x1)))) dX12_takeBelt_127 rfl shM_13 (h2 c1) rfl rfl ?_
    refine ax_aload_n (q := 129) (i := 0) dX12_takeBelt_128 rfl rfl rfl ?_
    refine ax_get (q := 132) (k := 0) (j := 19) (v := ax_r 13) dX12_takeBelt_129 rfl shM_0 rfl rfl rfl (by decide) fl_X12_46 ?_
    refine ax_iconst (q := 133) dX12_takeBelt_132 rfl ki_3 ?_
    refine ax_iload_n (q := 134) (i := 1) dX12_takeBelt_133 rfl rfl rfl ?_
    refine ax_imul (q := 135) dX12_takeBelt_134 rfl ?_
    refine ax_iconst (q := 136) dX12_takeBelt_135 rfl ki_1 ?_
    refine ax_iadd (q := 137) dX12_takeBelt_136 rfl ?_
    refine ax_iald (q := 138) (a := (Int32.toNatClampNeg (((3 : Int32) * x1) + (1 : Int32)))) (v := (σ.1 13 (Int32.toNatClampNeg (((3 : Int32) * x1) + (1 : Int32))))) dX12_takeBelt_137 rfl shM_13 (h3 c1) rfl rfl ?_
    refine ax_aload_n (q := 139) (i := 0) dX12_takeBelt_138 rfl rfl rfl ?_
    refine ax_get (q := 142) (k := 0) (j := 19) (v := ax_r 13) dX12_takeBelt_139 rfl shM_0 rfl rfl rfl (by decide) fl_X12_46 ?_
    refine ax_iconst (q := 143) dX12_takeBelt_142 rfl ki_3 ?_
    refine ax_iload_n (q := 144) (i := 1) dX12_takeBelt_143 rfl rfl rfl ?_
    refine ax_imul (q := 145) dX12_takeBelt_144 rfl ?_
    refine ax_iconst (q := 146) dX12_takeBelt_145 rfl ki_2 ?_
    refine ax_iadd (q := 147) dX12_takeBelt_146 rfl ?_
    refine ax_iald (q := 148) (a := (Int32.toNatClampNeg (((3 : Int32) * x1) + (2 : Int32)))) (v := (σ.1 13 (Int32.toNatClampNeg (((3 : Int32) * x1) + (2 : Int32))))) dX12_takeBelt_147 rfl shM_13 (h4 c1) rfl rfl ?_
    refine ax_callVfi (q := 151) (As := [ax_i (σ.1 13 (Int32.toNatClampNeg ((3 : Int32) * x1))), ax_i (σ.1 13 (Int32.toNatClampNeg (((3 : Int32) * x1) + (1 : Int32)))), ax_i (σ.1 13 (Int32.toNatClampNeg (((3 : Int32) * x1) + (2 : Int32))))]) (st := []) (x := (σ.1 15 84)) (σ2 := (ax_ui (ax_ui (ax_ui (ax_ui (ax_ui σ 15 84 ((σ.1 15 84) + (1 : Int32))) 15 (Int32.toNatClampNeg (((16 : Int32) + ((4 : Int32) * (σ.1 15 84))) + (0 : Int32))) (σ.1 13 (Int32.toNatClampNeg ((3 : Int32) * x1)))) 15 (Int32.toNatClampNeg (((16 : Int32) + ((4 : Int32) * (σ.1 15 84))) + (1 : Int32))) (σ.1 13 (Int32.toNatClampNeg (((3 : Int32) * x1) + (1 : Int32))))) 15 (Int32.toNatClampNeg (((16 : Int32) + ((4 : Int32) * (σ.1 15 84))) + (2 : Int32))) (σ.1 13 (Int32.toNatClampNeg (((3 : Int32) * x1) + (2 : Int32))))) 15 (Int32.toNatClampNeg (((16 : Int32) + ((4 : Int32) * (σ.1 15 84))) + (3 : Int32))) (0 : Int32))) dX12_takeBelt_148 rfl lk_X12_280 shM_0 rfl rfl rfl rfl (Nat.le_of_ble_eq_true rfl) (f_X12_string σ (σ.1 13 (Int32.toNatClampNeg ((3 : Int32) * x1))) (σ.1 13 (Int32.toNatClampNeg (((3 : Int32) * x1) + (1 : Int32)))) (σ.1 13 (Int32.toNatClampNeg (((3 : Int32) * x1) + (2 : Int32)))) (ax_inl 84 268 (by decide) (by decide)) (h5 c1) (h6 c1) (h7 c1) (h8 c1) (d := d) (by omega)) ?_
    refine ax_popi (q := 152) dX12_takeBelt_151 rfl ?_
    refine ax_iincK (q := 155) (lv2 := [some (ax_r 0), some (ax_i (x1 + (1 : Int32)))]) dX12_takeBelt_152 rfl rfl ki_1 (by decide) rfl rfl ?_
    refine ax_goto (tgt := 111) dX12_takeBelt_155 (by decide) ?_
    exact (k9 c1)
set_option maxRecDepth 20000 in
theorem s_X12_text_0 {d : Nat} (hd : 0 ≤ d) {Q : Option ax_V → ax_S → Prop} (σ : ax_S) (a0 : Int32) (k1 : (¬ a0 = 0) → (¬ a0 = (1 : Int32)) → Q (some (ax_i (-1 : Int32))) σ) (k2 : (¬ a0 = 0) → (¬ (¬ a0 = (1 : Int32))) → ((4 : Int32) ≤ (σ.1 0 13)) → Q (some (ax_i (-1 : Int32))) σ) (k3 : (¬ a0 = 0) → (¬ (¬ a0 = (1 : Int32))) → (¬ ((4 : Int32) ≤ (σ.1 0 13))) → ax_Ct shM d mX12_readLaw [ax_r 0, ax_i (σ.1 0 13)] (fun r u => ∃ x : Int32, r = some (ax_i x) ∧ ax_W shM (d + 1) mX12_text Q 43 [some (ax_r 0), none] (ax_i x :: []) u) σ) (k4 : (¬ (¬ a0 = 0)) → ax_Ct shM d mX12_readBelt [ax_r 0] (fun r u => ∃ x : Int32, r = some (ax_i x) ∧ ax_W shM (d + 1) mX12_text Q 8 [some (ax_r 0), some (ax_i a0)] (ax_i x :: []) u) σ) : ax_W shM (d + 1) mX12_text Q 0 [some (ax_r 0), some (ax_i a0)] [] σ := by
  refine ax_iload_n (q := 1) (i := 1) dX12_text_0 rfl rfl rfl ?_
  refine ax_if_ne (tgt := 22) (q := 4) dX12_text_1 (by decide) rfl (fun c1 => ?_) (fun c1 => ?_)
  · refine ax_iload_n (q := 23) (i := 1) dX12_text_22 rfl rfl rfl ?_
    refine ax_iconst (q := 24) dX12_text_23 rfl ki_1 ?_
    refine ax_icmp_ne (tgt := 69) (q := 27) dX12_text_24 (by decide) rfl (fun c2 => ?_) (fun c2 => ?_)
    · refine ax_iconst (q := 70) dX12_text_69 rfl ki_m1 ?_
      exact ax_iret dX12_text_70 rfl rfl (k1 c1 c2)
    · refine ax_aload_n (q := 28) (i := 0) dX12_text_27 rfl rfl rfl ?_
      refine ax_get (q := 31) (k := 0) (j := 13) (v := ax_i (σ.1 0 13)) dX12_text_28 rfl shM_0 rfl rfl rfl (by decide) fl_X12_299 ?_
      refine ax_iconst (q := 32) dX12_text_31 rfl ki_4 ?_
      refine ax_icmp_ge (tgt := 69) (q := 35) dX12_text_32 (by decide) rfl (fun c3 => ?_) (fun c3 => ?_)
      · refine ax_iconst (q := 70) dX12_text_69 rfl ki_m1 ?_
        exact ax_iret dX12_text_70 rfl rfl (k2 c1 c2 c3)
      · refine ax_aload_n (q := 36) (i := 0) dX12_text_35 rfl rfl rfl ?_
        refine ax_aload_n (q := 37) (i := 0) dX12_text_36 rfl rfl rfl ?_
        refine ax_get (q := 40) (k := 0) (j := 13) (v := ax_i (σ.1 0 13)) dX12_text_37 rfl shM_0 rfl rfl rfl (by decide) fl_X12_299 ?_
        refine ax_fg (lv2 := [some (ax_r 0), none]) ⟨rfl, trivial⟩ ?_
        exact ax_callVci (q := 43) (As := [ax_i (σ.1 0 13)]) (st := []) dX12_text_40 rfl lk_X12_268 shM_0 rfl rfl rfl rfl (Nat.le_of_ble_eq_true rfl) (k3 c1 c2 c3)
  · refine ax_aload_n (q := 5) (i := 0) dX12_text_4 rfl rfl rfl ?_
    exact ax_callVci (q := 8) (As := []) (st := []) dX12_text_5 rfl lk_X12_265 shM_0 rfl rfl rfl rfl (Nat.le_of_ble_eq_true rfl) (k4 c1)
set_option maxRecDepth 20000 in
theorem s_X12_text_43 {d : Nat} (hd : 0 ≤ d) {Q : Option ax_V → ax_S → Prop} (σ : ax_S) (rr : Int32) (k1 : (¬ rr = (-1 : Int32)) → Q (some (ax_i (-1 : Int32))) σ) (k2 : (¬ (¬ rr = (-1 : Int32))) → Q (some (ax_i (((σ.1 0 13) + (1 : Int32)) - (1 : Int32)))) (ax_ui (ax_ui σ 0 2 (0 : Int32)) 0 13 ((σ.1 0 13) + (1 : Int32)))) : ax_W shM (d + 1) mX12_text Q 43 [some (ax_r 0), none] [ax_i rr] σ := by
  refine ax_iconst (q := 44) dX12_text_43 rfl ki_m1 ?_
  refine ax_icmp_ne (tgt := 69) (q := 47) dX12_text_44 (by decide) rfl (fun c1 => ?_) (fun c1 => ?_)
  · refine ax_iconst (q := 70) dX12_text_69 rfl ki_m1 ?_
    exact ax_iret dX12_text_70 rfl rfl (k1 c1)
  · refine ax_aload_n (q := 48) (i := 0) dX12_text_47 rfl rfl rfl ?_
    refine ax_iconst (q := 49) dX12_text_48 rfl ki_0 ?_
    refine ax_puti (q := 52) (k := 0) (j := 2) dX12_text_49 rfl shM_0 rfl rfl (by decide) fl_X12_115 rfl rfl rfl rfl ?_
    refine ax_aload_n (q := 53) (i := 0) dX12_text_52 rfl rfl rfl ?_
    refine ax_dupr (q := 54) dX12_text_53 rfl ?_
    refine ax_get (q := 57) (k := 0) (j := 13) (v := ax_i (σ.1 0 13)) dX12_text_54 rfl shM_0 rfl rfl rfl (by decide) fl_X12_299 ?_
    refine ax_iconst (q := 58) dX12_text_57 rfl ki_1 ?_
    refine ax_iadd (q := 59) dX12_text_58 rfl ?_
    refine ax_puti (q := 62) (k := 0) (j := 13) dX12_text_59 rfl shM_0 rfl rfl (by decide) fl_X12_299 rfl rfl rfl rfl ?_
    refine ax_aload_n (q := 63) (i := 0) dX12_text_62 rfl rfl rfl ?_
    refine ax_get (q := 66) (k := 0) (j := 13) (v := ax_i ((σ.1 0 13) + (1 : Int32))) dX12_text_63 rfl shM_0 rfl rfl rfl (by decide) fl_X12_299 ?_
    refine ax_iconst (q := 67) dX12_text_66 rfl ki_1 ?_
    refine ax_isub (q := 68) dX12_text_67 rfl ?_
    exact ax_iret dX12_text_68 rfl rfl (k2 c1)
set_option maxRecDepth 20000 in
theorem s_X12_text_8 {d : Nat} (hd : 0 ≤ d) {Q : Option ax_V → ax_S → Prop} (σ : ax_S) (x1 : Int32) (rr : Int32) (k1 : (¬ rr = (-1 : Int32)) → (¬ x1 = (1 : Int32)) → Q (some (ax_i (-1 : Int32))) σ) (k2 : (¬ rr = (-1 : Int32)) → (¬ (¬ x1 = (1 : Int32))) → ((4 : Int32) ≤ (σ.1 0 13)) → Q (some (ax_i (-1 : Int32))) σ) (k3 : (¬ rr = (-1 : Int32)) → (¬ (¬ x1 = (1 : Int32))) → (¬ ((4 : Int32) ≤ (σ.1 0 13))) → ax_Ct shM d mX12_readLaw [ax_r 0, ax_i (σ.1 0 13)] (fun r u => ∃ x : Int32, r = some (ax_i x) ∧ ax_W shM (d + 1) mX12_text Q 43 [some (ax_r 0), none] (ax_i x :: []) u) σ) (k4 : (¬ (¬ rr = (-1 : Int32))) → ax_Ct shM d mX12_takeBelt [ax_r 0] (fun r u => ∃ x : Int32, r = some (ax_i x) ∧ ax_W shM (d + 1) mX12_text Q 21 [none, none] (ax_i x :: []) u) (ax_ui σ 0 2 (0 : Int32))) : ax_W shM (d + 1) mX12_text Q 8 [some (ax_r 0), some (ax_i x1)] [ax_i rr] σ := by
  refine ax_iconst (q := 9) dX12_text_8 rfl ki_m1 ?_
  refine ax_icmp_ne (tgt := 22) (q := 12) dX12_text_9 (by decide) rfl (fun c1 => ?_) (fun c1 => ?_)
  · refine ax_iload_n (q := 23) (i := 1) dX12_text_22 rfl rfl rfl ?_
    refine ax_iconst (q := 24) dX12_text_23 rfl ki_1 ?_
    refine ax_icmp_ne (tgt := 69) (q := 27) dX12_text_24 (by decide) rfl (fun c2 => ?_) (fun c2 => ?_)
    · refine ax_iconst (q := 70) dX12_text_69 rfl ki_m1 ?_
      exact ax_iret dX12_text_70 rfl rfl (k1 c1 c2)
    · refine ax_aload_n (q := 28) (i := 0) dX12_text_27 rfl rfl rfl ?_
      refine ax_get (q := 31) (k := 0) (j := 13) (v := ax_i (σ.1 0 13)) dX12_text_28 rfl shM_0 rfl rfl rfl (by decide) fl_X12_299 ?_
      refine ax_iconst (q := 32) dX12_text_31 rfl ki_4 ?_
      refine ax_icmp_ge (tgt := 69) (q := 35) dX12_text_32 (by decide) rfl (fun c3 => ?_) (fun c3 => ?_)
      · refine ax_iconst (q := 70) dX12_text_69 rfl ki_m1 ?_
        exact ax_iret dX12_text_70 rfl rfl (k2 c1 c2 c3)
      · refine ax_aload_n (q := 36) (i := 0) dX12_text_35 rfl rfl rfl ?_
        refine ax_aload_n (q := 37) (i := 0) dX12_text_36 rfl rfl rfl ?_
        refine ax_get (q := 40) (k := 0) (j := 13) (v := ax_i (σ.1 0 13)) dX12_text_37 rfl shM_0 rfl rfl rfl (by decide) fl_X12_299 ?_
        refine ax_fg (lv2 := [some (ax_r 0), none]) ⟨rfl, trivial⟩ ?_
        exact ax_callVci (q := 43) (As := [ax_i (σ.1 0 13)]) (st := []) dX12_text_40 rfl lk_X12_268 shM_0 rfl rfl rfl rfl (Nat.le_of_ble_eq_true rfl) (k3 c1 c2 c3)
  · refine ax_aload_n (q := 13) (i := 0) dX12_text_12 rfl rfl rfl ?_
    refine ax_iconst (q := 14) dX12_text_13 rfl ki_0 ?_
    refine ax_puti (q := 17) (k := 0) (j := 2) dX12_text_14 rfl shM_0 rfl rfl (by decide) fl_X12_115 rfl rfl rfl rfl ?_
    refine ax_aload_n (q := 18) (i := 0) dX12_text_17 rfl rfl rfl ?_
    refine ax_fg (lv2 := [none, none]) trivial ?_
    exact ax_callVci (q := 21) (As := []) (st := []) dX12_text_18 rfl lk_X12_296 shM_0 rfl rfl rfl rfl (Nat.le_of_ble_eq_true rfl) (k4 c1)
set_option maxRecDepth 20000 in
theorem s_X12_text_21 {d : Nat} (hd : 0 ≤ d) {Q : Option ax_V → ax_S → Prop} (σ : ax_S) (rr : Int32) (k1 : Q (some (ax_i rr)) σ) : ax_W shM (d + 1) mX12_text Q 21 [none, none] [ax_i rr] σ := by
  exact ax_iret dX12_text_21 rfl rfl k1
set_option maxRecDepth 20000 in
theorem f_X12_ofWire (σ : ax_S) (a0 : Int32) (a1 : Int32) (h1 : vp_in (((16 : Int32) + ((4 : Int32) * a0)) + a1) 268) {d : Nat} (hd : 1 ≤ d) : ax_Ct shM d mX12_ofWire [ax_r 0, ax_i a0, ax_i a1] (fun r u => r = some (ax_i (σ.1 15 (Int32.toNatClampNeg (((16 : Int32) + ((4 : Int32) * a0)) + a1)))) ∧ u = σ) σ := by
  obtain ⟨d, rfl⟩ : ∃ e, d = e + 1 := ⟨d - 1, by omega⟩
  refine ax_Ct.of (lv := [some (ax_r 0), some (ax_i a0), some (ax_i a1)]) (by decide +kernel) (fun ad => Nat.le_of_ble_eq_true rfl) (fun ad => rfl) ?_
  refine ax_aload_n (q := 1) (i := 0) dX12_ofWire_0 rfl rfl rfl ?_
  refine ax_get (q := 4) (k := 0) (j := 25) (v := ax_r 15) dX12_ofWire_1 rfl shM_0 rfl rfl rfl (by decide) fl_X12_52 ?_
  refine ax_bipush (q := 6) dX12_ofWire_4 rfl kb_16 ?_
  refine ax_iconst (q := 7) dX12_ofWire_6 rfl ki_4 ?_
  refine ax_iload_n (q := 8) (i := 1) dX12_ofWire_7 rfl rfl rfl ?_
  refine ax_imul (q := 9) dX12_ofWire_8 rfl ?_
  refine ax_iadd (q := 10) dX12_ofWire_9 rfl ?_
  refine ax_iload_n (q := 11) (i := 2) dX12_ofWire_10 rfl rfl rfl ?_
  refine ax_iadd (q := 12) dX12_ofWire_11 rfl ?_
  refine ax_iald (q := 13) (a := (Int32.toNatClampNeg (((16 : Int32) + ((4 : Int32) * a0)) + a1))) (v := (σ.1 15 (Int32.toNatClampNeg (((16 : Int32) + ((4 : Int32) * a0)) + a1)))) dX12_ofWire_12 rfl shM_15 h1 rfl rfl ?_
  exact ax_iret dX12_ofWire_13 rfl rfl ⟨rfl, rfl⟩
set_option maxRecDepth 20000 in
theorem f_X12_isHouse (σ : ax_S) (a0 : Int32)  {d : Nat} (hd : 2 ≤ d) : ax_Ct shM d mX12_isHouse [ax_r 0, ax_i a0] (fun r u => r = some (ax_i (if ((¬ (a0 < (0 : Int32))) ∧ (¬ (((σ.1 0 23) - (1 : Int32)) < a0))) then (1 : Int32) else 0)) ∧ u = σ) σ := by
  obtain ⟨d, rfl⟩ : ∃ e, d = e + 1 := ⟨d - 1, by omega⟩
  refine ax_Ct.of (lv := [some (ax_r 0), some (ax_i a0)]) (by decide +kernel) (fun ad => Nat.le_of_ble_eq_true rfl) (fun ad => rfl) ?_
  refine ax_iload_n (q := 1) (i := 1) dX12_isHouse_0 rfl rfl rfl ?_
  refine ax_iconst (q := 2) dX12_isHouse_1 rfl ki_0 ?_
  refine ax_aload_n (q := 3) (i := 0) dX12_isHouse_2 rfl rfl rfl ?_
  refine ax_get (q := 6) (k := 0) (j := 23) (v := ax_i (σ.1 0 23)) dX12_isHouse_3 rfl shM_0 rfl rfl rfl (by decide) fl_X12_271 ?_
  refine ax_iconst (q := 7) dX12_isHouse_6 rfl ki_1 ?_
  refine ax_isub (q := 8) dX12_isHouse_7 rfl ?_
  refine ax_callSfi (q := 11) (As := [ax_i a0, ax_i (0 : Int32), ax_i ((σ.1 0 23) - (1 : Int32))]) (st := []) (x := (if ((¬ (a0 < (0 : Int32))) ∧ (¬ (((σ.1 0 23) - (1 : Int32)) < a0))) then (1 : Int32) else 0)) (σ2 := σ) dX12_isHouse_8 rfl lk_X12_223 rfl rfl (Nat.le_of_ble_eq_true rfl) (f_X12_in (sh := shM) σ a0 (0 : Int32) ((σ.1 0 23) - (1 : Int32))  (d := d) (by omega)) ?_
  exact ax_iret dX12_isHouse_11 rfl (ax_nb _) ⟨rfl, rfl⟩
set_option maxRecDepth 20000 in
theorem f_X12_isWire (σ : ax_S) (a0 : Int32) (h1 : vp_in (84 : Int32) 268) {d : Nat} (hd : 2 ≤ d) : ax_Ct shM d mX12_isWire [ax_r 0, ax_i a0] (fun r u => r = some (ax_i (if ((¬ (a0 < (0 : Int32))) ∧ (¬ (((σ.1 15 84) - (1 : Int32)) < a0))) then (1 : Int32) else 0)) ∧ u = σ) σ := by
  obtain ⟨d, rfl⟩ : ∃ e, d = e + 1 := ⟨d - 1, by omega⟩
  refine ax_Ct.of (lv := [some (ax_r 0), some (ax_i a0)]) (by decide +kernel) (fun ad => Nat.le_of_ble_eq_true rfl) (fun ad => rfl) ?_
  refine ax_iload_n (q := 1) (i := 1) dX12_isWire_0 rfl rfl rfl ?_
  refine ax_iconst (q := 2) dX12_isWire_1 rfl ki_0 ?_
  refine ax_aload_n (q := 3) (i := 0) dX12_isWire_2 rfl rfl rfl ?_
  refine ax_get (q := 6) (k := 0) (j := 25) (v := ax_r 15) dX12_isWire_3 rfl shM_0 rfl rfl rfl (by decide) fl_X12_52 ?_
  refine ax_bipush (q := 8) dX12_isWire_6 rfl kb_84 ?_
  refine ax_iald (q := 9) (a := 84) (v := (σ.1 15 84)) dX12_isWire_8 rfl shM_15 h1 rfl rfl ?_
  refine ax_iconst (q := 10) dX12_isWire_9 rfl ki_1 ?_
  refine ax_isub (q := 11) dX12_isWire_10 rfl ?_
  refine ax_callSfi (q := 14) (As := [ax_i a0, ax_i (0 : Int32), ax_i ((σ.1 15 84) - (1 : Int32))]) (st := []) (x := (if ((¬ (a0 < (0 : Int32))) ∧ (¬ (((σ.1 15 84) - (1 : Int32)) < a0))) then (1 : Int32) else 0)) (σ2 := σ) dX12_isWire_11 rfl lk_X12_223 rfl rfl (Nat.le_of_ble_eq_true rfl) (f_X12_in (sh := shM) σ a0 (0 : Int32) ((σ.1 15 84) - (1 : Int32))  (d := d) (by omega)) ?_
  exact ax_iret dX12_isWire_14 rfl (ax_nb _) ⟨rfl, rfl⟩
set_option maxRecDepth 20000 in
theorem f_X12_isLive (σ : ax_S) (a0 : Int32) (h1 : vp_in (((16 : Int32) + ((4 : Int32) * a0)) + (3 : Int32)) 268) (h2 : (¬ (¬ (σ.1 15 (Int32.toNatClampNeg (((16 : Int32) + ((4 : Int32) * a0)) + (3 : Int32)))) = 0)) → vp_in (((16 : Int32) + ((4 : Int32) * a0)) + (2 : Int32)) 268) {d : Nat} (hd : 2 ≤ d) : ax_Ct shM d mX12_isLive [ax_r 0, ax_i a0] (fun r u => r = some (ax_i (if ((¬ (¬ (σ.1 15 (Int32.toNatClampNeg (((16 : Int32) + ((4 : Int32) * a0)) + (3 : Int32)))) = 0)) ∧ (¬ ((9 : Int32) ≤ (σ.1 15 (Int32.toNatClampNeg (((16 : Int32) + ((4 : Int32) * a0)) + (2 : Int32))))))) then (1 : Int32) else 0)) ∧ u = σ) σ := by
  obtain ⟨d, rfl⟩ : ∃ e, d = e + 1 := ⟨d - 1, by omega⟩
  refine ax_Ct.of (lv := [some (ax_r 0), some (ax_i a0)]) (by decide +kernel) (fun ad => Nat.le_of_ble_eq_true rfl) (fun ad => rfl) ?_
  refine ax_aload_n (q := 1) (i := 0) dX12_isLive_0 rfl rfl rfl ?_
  refine ax_iload_n (q := 2) (i := 1) dX12_isLive_1 rfl rfl rfl ?_
  refine ax_iconst (q := 3) dX12_isLive_2 rfl ki_3 ?_
  refine ax_callVfi (q := 6) (As := [ax_i a0, ax_i (3 : Int32)]) (st := []) (x := (σ.1 15 (Int32.toNatClampNeg (((16 : Int32) + ((4 : Int32) * a0)) + (3 : Int32))))) (σ2 := σ) dX12_isLive_3 rfl lk_X12_306 shM_0 rfl rfl rfl rfl (Nat.le_of_ble_eq_true rfl) (f_X12_ofWire σ a0 (3 : Int32) h1 (d := d) (by omega)) ?_
  have K3 : ax_W shM (d + 1) mX12_isLive (fun r u => r = some (ax_i (if ((¬ (¬ (σ.1 15 (Int32.toNatClampNeg (((16 : Int32) + ((4 : Int32) * a0)) + (3 : Int32)))) = 0)) ∧ (¬ ((9 : Int32) ≤ (σ.1 15 (Int32.toNatClampNeg (((16 : Int32) + ((4 : Int32) * a0)) + (2 : Int32))))))) then (1 : Int32) else 0)) ∧ u = σ) 25 [some (ax_r 0), some (ax_i a0)] [ax_i (if ((¬ (¬ (σ.1 15 (Int32.toNatClampNeg (((16 : Int32) + ((4 : Int32) * a0)) + (3 : Int32)))) = 0)) ∧ (¬ ((9 : Int32) ≤ (σ.1 15 (Int32.toNatClampNeg (((16 : Int32) + ((4 : Int32) * a0)) + (2 : Int32))))))) then (1 : Int32) else 0)] σ := by
    exact ax_iret dX12_isLive_25 rfl (ax_nb _) ⟨rfl, rfl⟩
  refine ax_if_ne (tgt := 24) (q := 9) dX12_isLive_6 (by decide) rfl (fun c1 => ?_) (fun c1 => ?_)
  · refine ax_iconst (q := 25) dX12_isLive_24 rfl ki_0 ?_
    exact ax_cv (if_neg (fun z => (fun y => y c1) z.1)) K3
  · refine ax_aload_n (q := 10) (i := 0) dX12_isLive_9 rfl rfl rfl ?_
    refine ax_iload_n (q := 11) (i := 1) dX12_isLive_10 rfl rfl rfl ?_
    refine ax_iconst (q := 12) dX12_isLive_11 rfl ki_2 ?_
    refine ax_callVfi (q := 15) (As := [ax_i a0, ax_i (2 : Int32)]) (st := []) (x := (σ.1 15 (Int32.toNatClampNeg (((16 : Int32) + ((4 : Int32) * a0)) + (2 : Int32))))) (σ2 := σ) dX12_isLive_12 rfl lk_X12_306 shM_0 rfl rfl rfl rfl (Nat.le_of_ble_eq_true rfl) (f_X12_ofWire σ a0 (2 : Int32) (h2 c1) (d := d) (by omega)) ?_
    refine ax_bipush (q := 17) dX12_isLive_15 rfl kb_9 ?_
    refine ax_icmp_ge (tgt := 24) (q := 20) dX12_isLive_17 (by decide) rfl (fun c2 => ?_) (fun c2 => ?_)
    · refine ax_iconst (q := 25) dX12_isLive_24 rfl ki_0 ?_
      exact ax_cv (if_neg (fun z => (fun y => y c2) z.2)) K3
    · refine ax_iconst (q := 21) dX12_isLive_20 rfl ki_1 ?_
      refine ax_goto (tgt := 25) dX12_isLive_21 (by decide) ?_
      exact ax_cv (if_pos ⟨c1, c2⟩) K3
set_option maxRecDepth 20000 in
theorem f_X12_isAt (σ : ax_S) (a0 : Int32) (a1 : Int32) (h1 : vp_in (((16 : Int32) + ((4 : Int32) * a0)) + (0 : Int32)) 268) (h2 : (¬ ((σ.1 15 (Int32.toNatClampNeg (((16 : Int32) + ((4 : Int32) * a0)) + (0 : Int32)))) = a1)) → vp_in (((16 : Int32) + ((4 : Int32) * a0)) + (1 : Int32)) 268) {d : Nat} (hd : 2 ≤ d) : ax_Ct shM d mX12_isAt [ax_r 0, ax_i a0, ax_i a1] (fun r u => r = some (ax_i (if (((σ.1 15 (Int32.toNatClampNeg (((16 : Int32) + ((4 : Int32) * a0)) + (0 : Int32)))) = a1) ∨ (¬ (¬ (σ.1 15 (Int32.toNatClampNeg (((16 : Int32) + ((4 : Int32) * a0)) + (1 : Int32)))) = a1))) then (1 : Int32) else 0)) ∧ u = σ) σ := by
  obtain ⟨d, rfl⟩ : ∃ e, d = e + 1 := ⟨d - 1, by omega⟩
  refine ax_Ct.of (lv := [some (ax_r 0), some (ax_i a0), some (ax_i a1)]) (by decide +kernel) (fun ad => Nat.le_of_ble_eq_true rfl) (fun ad => rfl) ?_
  refine ax_aload_n (q := 1) (i := 0) dX12_isAt_0 rfl rfl rfl ?_
  refine ax_iload_n (q := 2) (i := 1) dX12_isAt_1 rfl rfl rfl ?_
  refine ax_iconst (q := 3) dX12_isAt_2 rfl ki_0 ?_
  refine ax_callVfi (q := 6) (As := [ax_i a0, ax_i (0 : Int32)]) (st := []) (x := (σ.1 15 (Int32.toNatClampNeg (((16 : Int32) + ((4 : Int32) * a0)) + (0 : Int32))))) (σ2 := σ) dX12_isAt_3 rfl lk_X12_306 shM_0 rfl rfl rfl rfl (Nat.le_of_ble_eq_true rfl) (f_X12_ofWire σ a0 (0 : Int32) h1 (d := d) (by omega)) ?_
  refine ax_iload_n (q := 7) (i := 2) dX12_isAt_6 rfl rfl rfl ?_
  have K3 : ax_W shM (d + 1) mX12_isAt (fun r u => r = some (ax_i (if (((σ.1 15 (Int32.toNatClampNeg (((16 : Int32) + ((4 : Int32) * a0)) + (0 : Int32)))) = a1) ∨ (¬ (¬ (σ.1 15 (Int32.toNatClampNeg (((16 : Int32) + ((4 : Int32) * a0)) + (1 : Int32)))) = a1))) then (1 : Int32) else 0)) ∧ u = σ) 25 [some (ax_r 0), some (ax_i a0), some (ax_i a1)] [ax_i (if (((σ.1 15 (Int32.toNatClampNeg (((16 : Int32) + ((4 : Int32) * a0)) + (0 : Int32)))) = a1) ∨ (¬ (¬ (σ.1 15 (Int32.toNatClampNeg (((16 : Int32) + ((4 : Int32) * a0)) + (1 : Int32)))) = a1))) then (1 : Int32) else 0)] σ := by
    exact ax_iret dX12_isAt_25 rfl (ax_nb _) ⟨rfl, rfl⟩
  refine ax_icmp_eq (tgt := 20) (q := 10) dX12_isAt_7 (by decide) rfl (fun c1 => ?_) (fun c1 => ?_)
  · refine ax_iconst (q := 21) dX12_isAt_20 rfl ki_1 ?_
    refine ax_goto (tgt := 25) dX12_isAt_21 (by decide) ?_
    exact ax_cv (if_pos (Or.inl c1)) K3
  · refine ax_aload_n (q := 11) (i := 0) dX12_isAt_10 rfl rfl rfl ?_
    refine ax_iload_n (q := 12) (i := 1) dX12_isAt_11 rfl rfl rfl ?_
    refine ax_iconst (q := 13) dX12_isAt_12 rfl ki_1 ?_
    refine ax_callVfi (q := 16) (As := [ax_i a0, ax_i (1 : Int32)]) (st := []) (x := (σ.1 15 (Int32.toNatClampNeg (((16 : Int32) + ((4 : Int32) * a0)) + (1 : Int32))))) (σ2 := σ) dX12_isAt_13 rfl lk_X12_306 shM_0 rfl rfl rfl rfl (Nat.le_of_ble_eq_true rfl) (f_X12_ofWire σ a0 (1 : Int32) (h2 c1) (d := d) (by omega)) ?_
    refine ax_iload_n (q := 17) (i := 2) dX12_isAt_16 rfl rfl rfl ?_
    refine ax_icmp_ne (tgt := 24) (q := 20) dX12_isAt_17 (by decide) rfl (fun c2 => ?_) (fun c2 => ?_)
    · refine ax_iconst (q := 25) dX12_isAt_24 rfl ki_0 ?_
      exact ax_cv (if_neg (fun z => z.elim c1 (fun y => y c2))) K3
    · refine ax_iconst (q := 21) dX12_isAt_20 rfl ki_1 ?_
      refine ax_goto (tgt := 25) dX12_isAt_21 (by decide) ?_
      exact ax_cv (if_pos (Or.inr c2)) K3
set_option maxRecDepth 20000 in
theorem f_X12_farOf (σ : ax_S) (a0 : Int32) (a1 : Int32) (h1 : vp_in (((4 : Int32) * a0) + (0 : Int32)) 32) (h2 : vp_in (((4 : Int32) * a1) + (0 : Int32)) 32) {d : Nat} (hd : 2 ≤ d) : ax_Ct shM d mX12_farOf [ax_r 0, ax_i a0, ax_i a1] (fun r u => r = some (ax_i (if (0 : Int32) ≤ ((σ.1 14 (Int32.toNatClampNeg (((4 : Int32) * a0) + (0 : Int32)))) - (σ.1 14 (Int32.toNatClampNeg (((4 : Int32) * a1) + (0 : Int32))))) then ((σ.1 14 (Int32.toNatClampNeg (((4 : Int32) * a0) + (0 : Int32)))) - (σ.1 14 (Int32.toNatClampNeg (((4 : Int32) * a1) + (0 : Int32))))) else 0 - ((σ.1 14 (Int32.toNatClampNeg (((4 : Int32) * a0) + (0 : Int32)))) - (σ.1 14 (Int32.toNatClampNeg (((4 : Int32) * a1) + (0 : Int32))))))) ∧ u = σ) σ := by
  obtain ⟨d, rfl⟩ : ∃ e, d = e + 1 := ⟨d - 1, by omega⟩
  refine ax_Ct.of (lv := [some (ax_r 0), some (ax_i a0), some (ax_i a1)]) (by decide +kernel) (fun ad => Nat.le_of_ble_eq_true rfl) (fun ad => rfl) ?_
  refine ax_aload_n (q := 1) (i := 0) dX12_farOf_0 rfl rfl rfl ?_
  refine ax_iload_n (q := 2) (i := 1) dX12_farOf_1 rfl rfl rfl ?_
  refine ax_iconst (q := 3) dX12_farOf_2 rfl ki_0 ?_
  refine ax_callVfi (q := 6) (As := [ax_i a0, ax_i (0 : Int32)]) (st := []) (x := (σ.1 14 (Int32.toNatClampNeg (((4 : Int32) * a0) + (0 : Int32))))) (σ2 := σ) dX12_farOf_3 rfl lk_X12_277 shM_0 rfl rfl rfl rfl (Nat.le_of_ble_eq_true rfl) (f_X12_of σ a0 (0 : Int32) h1 (d := d) (by omega)) ?_
  refine ax_aload_n (q := 7) (i := 0) dX12_farOf_6 rfl rfl rfl ?_
  refine ax_iload_n (q := 8) (i := 2) dX12_farOf_7 rfl rfl rfl ?_
  refine ax_iconst (q := 9) dX12_farOf_8 rfl ki_0 ?_
  refine ax_callVfi (q := 12) (As := [ax_i a1, ax_i (0 : Int32)]) (st := [ax_i (σ.1 14 (Int32.toNatClampNeg (((4 : Int32) * a0) + (0 : Int32))))]) (x := (σ.1 14 (Int32.toNatClampNeg (((4 : Int32) * a1) + (0 : Int32))))) (σ2 := σ) dX12_farOf_9 rfl lk_X12_277 shM_0 rfl rfl rfl rfl (Nat.le_of_ble_eq_true rfl) (f_X12_of σ a1 (0 : Int32) h2 (d := d) (by omega)) ?_
  refine ax_isub (q := 13) dX12_farOf_12 rfl ?_
  refine ax_mabs (q := 16) dX12_farOf_13 rfl mk_X12_309 (Nat.le_of_ble_eq_true rfl) ?_
  exact ax_iret dX12_farOf_16 rfl rfl ⟨rfl, rfl⟩
set_option maxRecDepth 20000 in
theorem s_X12_liveAt_0 {d : Nat} (hd : 0 ≤ d) {Q : Option ax_V → ax_S → Prop} (σ : ax_S) (a0 : Int32) (a1 : Int32) (k1 : ax_W shM (d + 1) mX12_liveAt Q 5 [some (ax_r 0), some (ax_i a0), some (ax_i a1), some (ax_i (0 : Int32)), some (ax_i (0 : Int32))] [] σ) : ax_W shM (d + 1) mX12_liveAt Q 0 [some (ax_r 0), some (ax_i a0), some (ax_i a1), none, none] [] σ := by
  refine ax_iconst (q := 1) dX12_liveAt_0 rfl ki_0 ?_
  refine ax_istore_n (q := 2) (i := 3) (lv2 := [some (ax_r 0), some (ax_i a0), some (ax_i a1), some (ax_i (0 : Int32)), none]) dX12_liveAt_1 rfl rfl (by decide) rfl rfl ?_
  refine ax_iconst (q := 3) dX12_liveAt_2 rfl ki_0 ?_
  refine ax_istore (q := 5) (lv2 := [some (ax_r 0), some (ax_i a0), some (ax_i a1), some (ax_i (0 : Int32)), some (ax_i (0 : Int32))]) dX12_liveAt_3 rfl (by decide) rfl rfl ?_
  exact k1
set_option maxRecDepth 20000 in
theorem s_X12_liveAt_5 {d : Nat} (hd : 2 ≤ d) {Q : Option ax_V → ax_S → Prop} (σ : ax_S) (x1 : Int32) (x2 : Int32) (x3 : Int32) (x4 : Int32) (k1 : ((σ.1 15 84) ≤ x4) → Q (some (ax_i x3)) σ) (h2 : (¬ ((σ.1 15 84) ≤ x4)) → (¬ (x4 = x2)) → vp_in (((16 : Int32) + ((4 : Int32) * x4)) + (3 : Int32)) 268) (h3 : (¬ ((σ.1 15 84) ≤ x4)) → (¬ (x4 = x2)) → (¬ (¬ (σ.1 15 (Int32.toNatClampNeg (((16 : Int32) + ((4 : Int32) * x4)) + (3 : Int32)))) = 0)) → vp_in (((16 : Int32) + ((4 : Int32) * x4)) + (2 : Int32)) 268) (h4 : (¬ ((σ.1 15 84) ≤ x4)) → (¬ (x4 = x2)) → ((¬ (¬ (σ.1 15 (Int32.toNatClampNeg (((16 : Int32) + ((4 : Int32) * x4)) + (3 : Int32)))) = 0)) ∧ (¬ ((9 : Int32) ≤ (σ.1 15 (Int32.toNatClampNeg (((16 : Int32) + ((4 : Int32) * x4)) + (2 : Int32))))))) → vp_in (((16 : Int32) + ((4 : Int32) * x4)) + (0 : Int32)) 268) (h5 : (¬ ((σ.1 15 84) ≤ x4)) → (¬ (x4 = x2)) → ((¬ (¬ (σ.1 15 (Int32.toNatClampNeg (((16 : Int32) + ((4 : Int32) * x4)) + (3 : Int32)))) = 0)) ∧ (¬ ((9 : Int32) ≤ (σ.1 15 (Int32.toNatClampNeg (((16 : Int32) + ((4 : Int32) * x4)) + (2 : Int32))))))) → (¬ ((σ.1 15 (Int32.toNatClampNeg (((16 : Int32) + ((4 : Int32) * x4)) + (0 : Int32)))) = x1)) → vp_in (((16 : Int32) + ((4 : Int32) * x4)) + (1 : Int32)) 268) (k6 : (¬ ((σ.1 15 84) ≤ x4)) → ax_W shM (d + 1) mX12_liveAt Q 5 [some (ax_r 0), some (ax_i x1), some (ax_i x2), some (ax_i (x3 + (if ((¬ (x4 = x2)) ∧ (((¬ (¬ (σ.1 15 (Int32.toNatClampNeg (((16 : Int32) + ((4 : Int32) * x4)) + (3 : Int32)))) = 0)) ∧ (¬ ((9 : Int32) ≤ (σ.1 15 (Int32.toNatClampNeg (((16 : Int32) + ((4 : Int32) * x4)) + (2 : Int32))))))) ∧ (((σ.1 15 (Int32.toNatClampNeg (((16 : Int32) + ((4 : Int32) * x4)) + (0 : Int32)))) = x1) ∨ (¬ (¬ (σ.1 15 (Int32.toNatClampNeg (((16 : Int32) + ((4 : Int32) * x4)) + (1 : Int32)))) = x1))))) then (1 : Int32) else 0))), some (ax_i (x4 + (1 : Int32)))] [] σ) : ax_W shM (d + 1) mX12_liveAt Q 5 [some (ax_r 0), some (ax_i x1), some (ax_i x2), some (ax_i x3), some (ax_i x4)] [] σ := by
  refine ax_iload (q := 7) dX12_liveAt_5 rfl rfl ?_
  refine ax_aload_n (q := 8) (i := 0) dX12_liveAt_7 rfl rfl rfl ?_
  refine ax_get (q := 11) (k := 0) (j := 25) (v := ax_r 15) dX12_liveAt_8 rfl shM_0 rfl rfl rfl (by decide) fl_X12_52 ?_
  refine ax_bipush (q := 13) dX12_liveAt_11 rfl kb_84 ?_
  refine ax_iald (q := 14) (a := 84) (v := (σ.1 15 84)) dX12_liveAt_13 rfl shM_15 (ax_inl 84 268 (by decide) (by decide)) rfl rfl ?_
  refine ax_icmp_ge (tgt := 56) (q := 17) dX12_liveAt_14 (by decide) rfl (fun c1 => ?_) (fun c1 => ?_)
  · refine ax_iload_n (q := 57) (i := 3) dX12_liveAt_56 rfl rfl rfl ?_
    exact ax_iret dX12_liveAt_57 rfl rfl (k1 c1)
  · refine ax_iload_n (q := 18) (i := 3) dX12_liveAt_17 rfl rfl rfl ?_
    refine ax_iload (q := 20) dX12_liveAt_18 rfl rfl ?_
    refine ax_iload_n (q := 21) (i := 2) dX12_liveAt_20 rfl rfl rfl ?_
    have K5 : ax_W shM (d + 1) mX12_liveAt Q 48 [some (ax_r 0), some (ax_i x1), some (ax_i x2), some (ax_i x3), some (ax_i x4)] [ax_i (if ((¬ (x4 = x2)) ∧ (((¬ (¬ (σ.1 15 (Int32.toNatClampNeg (((16 : Int32) + ((4 : Int32) * x4)) + (3 : Int32)))) = 0)) ∧ (¬ ((9 : Int32) ≤ (σ.1 15 (Int32.toNatClampNeg (((16 : Int32) + ((4 : Int32) * x4)) + (2 : Int32))))))) ∧ (((σ.1 15 (Int32.toNatClampNeg (((16 : Int32) + ((4 : Int32) * x4)) + (0 : Int32)))) = x1) ∨ (¬ (¬ (σ.1 15 (Int32.toNatClampNeg (((16 : Int32) + ((4 : Int32) * x4)) + (1 : Int32)))) = x1))))) then (1 : Int32) else 0), ax_i x3] σ := by
      refine ax_iadd (q := 49) dX12_liveAt_48 rfl ?_
      refine ax_istore_n (q := 50) (i := 3) (lv2 := [some (ax_r 0), some (ax_i x1), some (ax_i x2), some (ax_i (x3 + (if ((¬ (x4 = x2)) ∧ (((¬ (¬ (σ.1 15 (Int32.toNatClampNeg (((16 : Int32) + ((4 : Int32) * x4)) + (3 : Int32)))) = 0)) ∧ (¬ ((9 : Int32) ≤ (σ.1 15 (Int32.toNatClampNeg (((16 : Int32) + ((4 : Int32) * x4)) + (2 : Int32))))))) ∧ (((σ.1 15 (Int32.toNatClampNeg (((16 : Int32) + ((4 : Int32) * x4)) + (0 : Int32)))) = x1) ∨ (¬ (¬ (σ.1 15 (Int32.toNatClampNeg (((16 : Int32) + ((4 : Int32) * x4)) + (1 : Int32)))) = x1))))) then (1 : Int32) else 0))), some (ax_i x4)]) dX12_liveAt_49 rfl rfl (by decide) rfl rfl ?_
      refine ax_iincK (q := 53) (lv2 := [some (ax_r 0), some (ax_i x1), some (ax_i x2), some (ax_i (x3 + (if ((¬ (x4 = x2)) ∧ (((¬ (¬ (σ.1 15 (Int32.toNatClampNeg (((16 : Int32) + ((4 : Int32) * x4)) + (3 : Int32)))) = 0)) ∧ (¬ ((9 : Int32) ≤ (σ.1 15 (Int32.toNatClampNeg (((16 : Int32) + ((4 : Int32) * x4)) + (2 : Int32))))))) ∧ (((σ.1 15 (Int32.toNatClampNeg (((16 : Int32) + ((4 : Int32) * x4)) + (0 : Int32)))) = x1) ∨ (¬ (¬ (σ.1 15 (Int32.toNatClampNeg (((16 : Int32) + ((4 : Int32) * x4)) + (1 : Int32)))) = x1))))) then (1 : Int32) else 0))), some (ax_i (x4 + (1 : Int32)))]) dX12_liveAt_50 rfl rfl ki_1 (by decide) rfl rfl ?_
      refine ax_goto (tgt := 5) dX12_liveAt_53 (by decide) ?_
      exact (k6 c1)
    refine ax_icmp_eq (tgt := 47) (q := 24) dX12_liveAt_21 (by decide) rfl (fun c2 => ?_) (fun c2 => ?_)
    · refine ax_iconst (q := 48) dX12_liveAt_47 rfl ki_0 ?_
      exact ax_cv (if_neg (fun z => (fun y => y c2) z.1)) K5
    · refine ax_aload_n (q := 25) (i := 0) dX12_liveAt_24 rfl rfl rfl ?_
      refine ax_iload (q := 27) dX12_liveAt_25 rfl rfl ?_
      refine ax_callVfi (q := 30) (As := [ax_i x4]) (st := [ax_i x3]) (x := (if ((¬ (¬ (σ.1 15 (Int32.toNatClampNeg (((16 : Int32) + ((4 : Int32) * x4)) + (3 : Int32)))) = 0)) ∧ (¬ ((9 : Int32) ≤ (σ.1 15 (Int32.toNatClampNeg (((16 : Int32) + ((4 : Int32) * x4)) + (2 : Int32))))))) then (1 : Int32) else 0)) (σ2 := σ) dX12_liveAt_27 rfl lk_X12_312 shM_0 rfl rfl rfl rfl (Nat.le_of_ble_eq_true rfl) (f_X12_isLive σ x4 (h2 c1 c2) (h3 c1 c2) (d := d) (by omega)) ?_
      refine ax_if_eqB (tgt := 47) (q := 33) dX12_liveAt_30 (by decide) rfl (fun c3 => ?_) (fun c3 => ?_)
      · refine ax_iconst (q := 48) dX12_liveAt_47 rfl ki_0 ?_
        exact ax_cv (if_neg (fun z => (fun z => c3 z.1) z.2)) K5
      · refine ax_aload_n (q := 34) (i := 0) dX12_liveAt_33 rfl rfl rfl ?_
        refine ax_iload (q := 36) dX12_liveAt_34 rfl rfl ?_
        refine ax_iload_n (q := 37) (i := 1) dX12_liveAt_36 rfl rfl rfl ?_
        refine ax_callVfi (q := 40) (As := [ax_i x4, ax_i x1]) (st := [ax_i x3]) (x := (if (((σ.1 15 (Int32.toNatClampNeg (((16 : Int32) + ((4 : Int32) * x4)) + (0 : Int32)))) = x1) ∨ (¬ (¬ (σ.1 15 (Int32.toNatClampNeg (((16 : Int32) + ((4 : Int32) * x4)) + (1 : Int32)))) = x1))) then (1 : Int32) else 0)) (σ2 := σ) dX12_liveAt_37 rfl lk_X12_315 shM_0 rfl rfl rfl rfl (Nat.le_of_ble_eq_true rfl) (f_X12_isAt σ x4 x1 (h4 c1 c2 c3) (h5 c1 c2 c3) (d := d) (by omega)) ?_
        refine ax_if_eqB (tgt := 47) (q := 43) dX12_liveAt_40 (by decide) rfl (fun c4 => ?_) (fun c4 => ?_)
        · refine ax_iconst (q := 48) dX12_liveAt_47 rfl ki_0 ?_
          exact ax_cv (if_neg (fun z => (fun z => c4 z.2) z.2)) K5
        · refine ax_iconst (q := 44) dX12_liveAt_43 rfl ki_1 ?_
          refine ax_goto (tgt := 48) dX12_liveAt_44 (by decide) ?_
          exact ax_cv (if_pos ⟨c2, ⟨c3, c4⟩⟩) K5
set_option maxRecDepth 20000 in
theorem s_X12_allLive_0 {d : Nat} (hd : 0 ≤ d) {Q : Option ax_V → ax_S → Prop} (σ : ax_S)  (k1 : ax_W shM (d + 1) mX12_allLive Q 4 [some (ax_r 0), some (ax_i (0 : Int32)), some (ax_i (0 : Int32))] [] σ) : ax_W shM (d + 1) mX12_allLive Q 0 [some (ax_r 0), none, none] [] σ := by
  refine ax_iconst (q := 1) dX12_allLive_0 rfl ki_0 ?_
  refine ax_istore_n (q := 2) (i := 1) (lv2 := [some (ax_r 0), some (ax_i (0 : Int32)), none]) dX12_allLive_1 rfl rfl (by decide) rfl rfl ?_
  refine ax_iconst (q := 3) dX12_allLive_2 rfl ki_0 ?_
  refine ax_istore_n (q := 4) (i := 2) (lv2 := [some (ax_r 0), some (ax_i (0 : Int32)), some (ax_i (0 : Int32))]) dX12_allLive_3 rfl rfl (by decide) rfl rfl ?_
  exact k1
set_option maxRecDepth 20000 in
theorem s_X12_allLive_4 {d : Nat} (hd : 2 ≤ d) {Q : Option ax_V → ax_S → Prop} (σ : ax_S) (x1 : Int32) (x2 : Int32) (k1 : ((σ.1 15 84) ≤ x2) → Q (some (ax_i x1)) σ) (h2 : (¬ ((σ.1 15 84) ≤ x2)) → vp_in (((16 : Int32) + ((4 : Int32) * x2)) + (3 : Int32)) 268) (h3 : (¬ ((σ.1 15 84) ≤ x2)) → (¬ (¬ (σ.1 15 (Int32.toNatClampNeg (((16 : Int32) + ((4 : Int32) * x2)) + (3 : Int32)))) = 0)) → vp_in (((16 : Int32) + ((4 : Int32) * x2)) + (2 : Int32)) 268) (k4 : (¬ ((σ.1 15 84) ≤ x2)) → ax_W shM (d + 1) mX12_allLive Q 4 [some (ax_r 0), some (ax_i (x1 ||| (if (¬ ((¬ (¬ (σ.1 15 (Int32.toNatClampNeg (((16 : Int32) + ((4 : Int32) * x2)) + (3 : Int32)))) = 0)) ∧ (¬ ((9 : Int32) ≤ (σ.1 15 (Int32.toNatClampNeg (((16 : Int32) + ((4 : Int32) * x2)) + (2 : Int32)))))))) then (0 : Int32) else ((1 : Int32) <<< (x2 &&& 31))))), some (ax_i (x2 + (1 : Int32)))] [] σ) : ax_W shM (d + 1) mX12_allLive Q 4 [some (ax_r 0), some (ax_i x1), some (ax_i x2)] [] σ := by
  refine ax_iload_n (q := 5) (i := 2) dX12_allLive_4 rfl rfl rfl ?_
  refine ax_aload_n (q := 6) (i := 0) dX12_allLive_5 rfl rfl rfl ?_
  refine ax_get (q := 9) (k := 0) (j := 25) (v := ax_r 15) dX12_allLive_6 rfl shM_0 rfl rfl rfl (by decide) fl_X12_52 ?_
  refine ax_bipush (q := 11) dX12_allLive_9 rfl kb_84 ?_
  refine ax_iald (q := 12) (a := 84) (v := (σ.1 15 84)) dX12_allLive_11 rfl shM_15 (ax_inl 84 268 (by decide) (by decide)) rfl rfl ?_
  refine ax_icmp_ge (tgt := 39) (q := 15) dX12_allLive_12 (by decide) rfl (fun c1 => ?_) (fun c1 => ?_)
  · refine ax_iload_n (q := 40) (i := 1) dX12_allLive_39 rfl rfl rfl ?_
    exact ax_iret dX12_allLive_40 rfl rfl (k1 c1)
  · refine ax_iload_n (q := 16) (i := 1) dX12_allLive_15 rfl rfl rfl ?_
    refine ax_aload_n (q := 17) (i := 0) dX12_allLive_16 rfl rfl rfl ?_
    refine ax_iload_n (q := 18) (i := 2) dX12_allLive_17 rfl rfl rfl ?_
    refine ax_callVfi (q := 21) (As := [ax_i x2]) (st := [ax_i x1]) (x := (if ((¬ (¬ (σ.1 15 (Int32.toNatClampNeg (((16 : Int32) + ((4 : Int32) * x2)) + (3 : Int32)))) = 0)) ∧ (¬ ((9 : Int32) ≤ (σ.1 15 (Int32.toNatClampNeg (((16 : Int32) + ((4 : Int32) * x2)) + (2 : Int32))))))) then (1 : Int32) else 0)) (σ2 := σ) dX12_allLive_18 rfl lk_X12_312 shM_0 rfl rfl rfl rfl (Nat.le_of_ble_eq_true rfl) (f_X12_isLive σ x2 (h2 c1) (h3 c1) (d := d) (by omega)) ?_
    have K3 : ax_W shM (d + 1) mX12_allLive Q 31 [some (ax_r 0), some (ax_i x1), some (ax_i x2)] [ax_i (if (¬ ((¬ (¬ (σ.1 15 (Int32.toNatClampNeg (((16 : Int32) + ((4 : Int32) * x2)) + (3 : Int32)))) = 0)) ∧ (¬ ((9 : Int32) ≤ (σ.1 15 (Int32.toNatClampNeg (((16 : Int32) + ((4 : Int32) * x2)) + (2 : Int32)))))))) then (0 : Int32) else ((1 : Int32) <<< (x2 &&& 31))), ax_i x1] σ := by
      refine ax_ior (q := 32) dX12_allLive_31 rfl ?_
      refine ax_istore_n (q := 33) (i := 1) (lv2 := [some (ax_r 0), some (ax_i (x1 ||| (if (¬ ((¬ (¬ (σ.1 15 (Int32.toNatClampNeg (((16 : Int32) + ((4 : Int32) * x2)) + (3 : Int32)))) = 0)) ∧ (¬ ((9 : Int32) ≤ (σ.1 15 (Int32.toNatClampNeg (((16 : Int32) + ((4 : Int32) * x2)) + (2 : Int32)))))))) then (0 : Int32) else ((1 : Int32) <<< (x2 &&& 31))))), some (ax_i x2)]) dX12_allLive_32 rfl rfl (by decide) rfl rfl ?_
      refine ax_iincK (q := 36) (lv2 := [some (ax_r 0), some (ax_i (x1 ||| (if (¬ ((¬ (¬ (σ.1 15 (Int32.toNatClampNeg (((16 : Int32) + ((4 : Int32) * x2)) + (3 : Int32)))) = 0)) ∧ (¬ ((9 : Int32) ≤ (σ.1 15 (Int32.toNatClampNeg (((16 : Int32) + ((4 : Int32) * x2)) + (2 : Int32)))))))) then (0 : Int32) else ((1 : Int32) <<< (x2 &&& 31))))), some (ax_i (x2 + (1 : Int32)))]) dX12_allLive_33 rfl rfl ki_1 (by decide) rfl rfl ?_
      refine ax_goto (tgt := 4) dX12_allLive_36 (by decide) ?_
      exact (k4 c1)
    refine ax_if_eqB (tgt := 30) (q := 24) dX12_allLive_21 (by decide) rfl (fun c2 => ?_) (fun c2 => ?_)
    · refine ax_iconst (q := 31) dX12_allLive_30 rfl ki_0 ?_
      exact ax_cv (if_pos c2) K3
    · refine ax_iconst (q := 25) dX12_allLive_24 rfl ki_1 ?_
      refine ax_iload_n (q := 26) (i := 2) dX12_allLive_25 rfl rfl rfl ?_
      refine ax_ishl (q := 27) dX12_allLive_26 rfl ?_
      refine ax_goto (tgt := 31) dX12_allLive_27 (by decide) ?_
      exact ax_cv (if_neg (fun y => y c2)) K3
set_option maxRecDepth 20000 in
theorem s_X12_areTied_0 {d : Nat} (hd : 0 ≤ d) {Q : Option ax_V → ax_S → Prop} (σ : ax_S) (a0 : Int32) (a1 : Int32) (k1 : ax_W shM (d + 1) mX12_areTied Q 2 [some (ax_r 0), some (ax_i a0), some (ax_i a1), some (ax_i (0 : Int32))] [] σ) : ax_W shM (d + 1) mX12_areTied Q 0 [some (ax_r 0), some (ax_i a0), some (ax_i a1), none] [] σ := by
  refine ax_iconst (q := 1) dX12_areTied_0 rfl ki_0 ?_
  refine ax_istore_n (q := 2) (i := 3) (lv2 := [some (ax_r 0), some (ax_i a0), some (ax_i a1), some (ax_i (0 : Int32))]) dX12_areTied_1 rfl rfl (by decide) rfl rfl ?_
  exact k1
set_option maxRecDepth 20000 in
theorem s_X12_areTied_2 {d : Nat} (hd : 2 ≤ d) {Q : Option ax_V → ax_S → Prop} (σ : ax_S) (x1 : Int32) (x2 : Int32) (x3 : Int32) (k1 : ((σ.1 15 84) ≤ x3) → Q (some (ax_i (0 : Int32))) σ) (h2 : (¬ ((σ.1 15 84) ≤ x3)) → vp_in (((16 : Int32) + ((4 : Int32) * x3)) + (3 : Int32)) 268) (k3 : (¬ ((σ.1 15 84) ≤ x3)) → (¬ (σ.1 15 (Int32.toNatClampNeg (((16 : Int32) + ((4 : Int32) * x3)) + (3 : Int32)))) = 0) → ax_W shM (d + 1) mX12_areTied Q 2 [some (ax_r 0), some (ax_i x1), some (ax_i x2), some (ax_i (x3 + (1 : Int32)))] [] σ) (h4 : (¬ ((σ.1 15 84) ≤ x3)) → (¬ (¬ (σ.1 15 (Int32.toNatClampNeg (((16 : Int32) + ((4 : Int32) * x3)) + (3 : Int32)))) = 0)) → vp_in (((16 : Int32) + ((4 : Int32) * x3)) + (0 : Int32)) 268) (h5 : (¬ ((σ.1 15 84) ≤ x3)) → (¬ (¬ (σ.1 15 (Int32.toNatClampNeg (((16 : Int32) + ((4 : Int32) * x3)) + (3 : Int32)))) = 0)) → (¬ ((σ.1 15 (Int32.toNatClampNeg (((16 : Int32) + ((4 : Int32) * x3)) + (0 : Int32)))) = x1)) → vp_in (((16 : Int32) + ((4 : Int32) * x3)) + (1 : Int32)) 268) (k6 : (¬ ((σ.1 15 84) ≤ x3)) → (¬ (¬ (σ.1 15 (Int32.toNatClampNeg (((16 : Int32) + ((4 : Int32) * x3)) + (3 : Int32)))) = 0)) → (¬ (((σ.1 15 (Int32.toNatClampNeg (((16 : Int32) + ((4 : Int32) * x3)) + (0 : Int32)))) = x1) ∨ (¬ (¬ (σ.1 15 (Int32.toNatClampNeg (((16 : Int32) + ((4 : Int32) * x3)) + (1 : Int32)))) = x1)))) → ax_W shM (d + 1) mX12_areTied Q 2 [some (ax_r 0), some (ax_i x1), some (ax_i x2), some (ax_i (x3 + (1 : Int32)))] [] σ) (h7 : (¬ ((σ.1 15 84) ≤ x3)) → (¬ (¬ (σ.1 15 (Int32.toNatClampNeg (((16 : Int32) + ((4 : Int32) * x3)) + (3 : Int32)))) = 0)) → (((σ.1 15 (Int32.toNatClampNeg (((16 : Int32) + ((4 : Int32) * x3)) + (0 : Int32)))) = x1) ∨ (¬ (¬ (σ.1 15 (Int32.toNatClampNeg (((16 : Int32) + ((4 : Int32) * x3)) + (1 : Int32)))) = x1))) → vp_in (((16 : Int32) + ((4 : Int32) * x3)) + (0 : Int32)) 268) (h8 : (¬ ((σ.1 15 84) ≤ x3)) → (¬ (¬ (σ.1 15 (Int32.toNatClampNeg (((16 : Int32) + ((4 : Int32) * x3)) + (3 : Int32)))) = 0)) → (((σ.1 15 (Int32.toNatClampNeg (((16 : Int32) + ((4 : Int32) * x3)) + (0 : Int32)))) = x1) ∨ (¬ (¬ (σ.1 15 (Int32.toNatClampNeg (((16 : Int32) + ((4 : Int32) * x3)) + (1 : Int32)))) = x1))) → (¬ ((σ.1 15 (Int32.toNatClampNeg (((16 : Int32) + ((4 : Int32) * x3)) + (0 : Int32)))) = x2)) → vp_in (((16 : Int32) + ((4 : Int32) * x3)) + (1 : Int32)) 268) (k9 : (¬ ((σ.1 15 84) ≤ x3)) → (¬ (¬ (σ.1 15 (Int32.toNatClampNeg (((16 : Int32) + ((4 : Int32) * x3)) + (3 : Int32)))) = 0)) → (((σ.1 15 (Int32.toNatClampNeg (((16 : Int32) + ((4 : Int32) * x3)) + (0 : Int32)))) = x1) ∨ (¬ (¬ (σ.1 15 (Int32.toNatClampNeg (((16 : Int32) + ((4 : Int32) * x3)) + (1 : Int32)))) = x1))) → (¬ (((σ.1 15 (Int32.toNatClampNeg (((16 : Int32) + ((4 : Int32) * x3)) + (0 : Int32)))) = x2) ∨ (¬ (¬ (σ.1 15 (Int32.toNatClampNeg (((16 : Int32) + ((4 : Int32) * x3)) + (1 : Int32)))) = x2)))) → ax_W shM (d + 1) mX12_areTied Q 2 [some (ax_r 0), some (ax_i x1), some (ax_i x2), some (ax_i (x3 + (1 : Int32)))] [] σ) (k10 : (¬ ((σ.1 15 84) ≤ x3)) → (¬ (¬ (σ.1 15 (Int32.toNatClampNeg (((16 : Int32) + ((4 : Int32) * x3)) + (3 : Int32)))) = 0)) → (((σ.1 15 (Int32.toNatClampNeg (((16 : Int32) + ((4 : Int32) * x3)) + (0 : Int32)))) = x1) ∨ (¬ (¬ (σ.1 15 (Int32.toNatClampNeg (((16 : Int32) + ((4 : Int32) * x3)) + (1 : Int32)))) = x1))) → (((σ.1 15 (Int32.toNatClampNeg (((16 : Int32) + ((4 : Int32) * x3)) + (0 : Int32)))) = x2) ∨ (¬ (¬ (σ.1 15 (Int32.toNatClampNeg (((16 : Int32) + ((4 : Int32) * x3)) + (1 : Int32)))) = x2))) → Q (some (ax_i (1 : Int32))) σ) : ax_W shM (d + 1) mX12_areTied Q 2 [some (ax_r 0), some (ax_i x1), some (ax_i x2), some (ax_i x3)] [] σ := by
  refine ax_iload_n (q := 3) (i := 3) dX12_areTied_2 rfl rfl rfl ?_
  refine ax_aload_n (q := 4) (i := 0) dX12_areTied_3 rfl rfl rfl ?_
  refine ax_get (q := 7) (k := 0) (j := 25) (v := ax_r 15) dX12_areTied_4 rfl shM_0 rfl rfl rfl (by decide) fl_X12_52 ?_
  refine ax_bipush (q := 9) dX12_areTied_7 rfl kb_84 ?_
  refine ax_iald (q := 10) (a := 84) (v := (σ.1 15 84)) dX12_areTied_9 rfl shM_15 (ax_inl 84 268 (by decide) (by decide)) rfl rfl ?_
  refine ax_icmp_ge (tgt := 48) (q := 13) dX12_areTied_10 (by decide) rfl (fun c1 => ?_) (fun c1 => ?_)
  · refine ax_iconst (q := 49) dX12_areTied_48 rfl ki_0 ?_
    exact ax_iret dX12_areTied_49 rfl rfl (k1 c1)
  · refine ax_aload_n (q := 14) (i := 0) dX12_areTied_13 rfl rfl rfl ?_
    refine ax_iload_n (q := 15) (i := 3) dX12_areTied_14 rfl rfl rfl ?_
    refine ax_iconst (q := 16) dX12_areTied_15 rfl ki_3 ?_
    refine ax_callVfi (q := 19) (As := [ax_i x3, ax_i (3 : Int32)]) (st := []) (x := (σ.1 15 (Int32.toNatClampNeg (((16 : Int32) + ((4 : Int32) * x3)) + (3 : Int32))))) (σ2 := σ) dX12_areTied_16 rfl lk_X12_306 shM_0 rfl rfl rfl rfl (Nat.le_of_ble_eq_true rfl) (f_X12_ofWire σ x3 (3 : Int32) (h2 c1) (d := d) (by omega)) ?_
    refine ax_if_ne (tgt := 42) (q := 22) dX12_areTied_19 (by decide) rfl (fun c2 => ?_) (fun c2 => ?_)
    · refine ax_iincK (q := 45) (lv2 := [some (ax_r 0), some (ax_i x1), some (ax_i x2), some (ax_i (x3 + (1 : Int32)))]) dX12_areTied_42 rfl rfl ki_1 (by decide) rfl rfl ?_
      refine ax_goto (tgt := 2) dX12_areTied_45 (by decide) ?_
      exact (k3 c1 c2)
    · refine ax_aload_n (q := 23) (i := 0) dX12_areTied_22 rfl rfl rfl ?_
      refine ax_iload_n (q := 24) (i := 3) dX12_areTied_23 rfl rfl rfl ?_
      refine ax_iload_n (q := 25) (i := 1) dX12_areTied_24 rfl rfl rfl ?_
      refine ax_callVfi (q := 28) (As := [ax_i x3, ax_i x1]) (st := []) (x := (if (((σ.1 15 (Int32.toNatClampNeg (((16 : Int32) + ((4 : Int32) * x3)) + (0 : Int32)))) = x1) ∨ (¬ (¬ (σ.1 15 (Int32.toNatClampNeg (((16 : Int32) + ((4 : Int32) * x3)) + (1 : Int32)))) = x1))) then (1 : Int32) else 0)) (σ2 := σ) dX12_areTied_25 rfl lk_X12_315 shM_0 rfl rfl rfl rfl (Nat.le_of_ble_eq_true rfl) (f_X12_isAt σ x3 x1 (h4 c1 c2) (h5 c1 c2) (d := d) (by omega)) ?_
      refine ax_if_eqB (tgt := 42) (q := 31) dX12_areTied_28 (by decide) rfl (fun c3 => ?_) (fun c3 => ?_)
      · refine ax_iincK (q := 45) (lv2 := [some (ax_r 0), some (ax_i x1), some (ax_i x2), some (ax_i (x3 + (1 : Int32)))]) dX12_areTied_42 rfl rfl ki_1 (by decide) rfl rfl ?_
        refine ax_goto (tgt := 2) dX12_areTied_45 (by decide) ?_
        exact (k6 c1 c2 c3)
      · refine ax_aload_n (q := 32) (i := 0) dX12_areTied_31 rfl rfl rfl ?_
        refine ax_iload_n (q := 33) (i := 3) dX12_areTied_32 rfl rfl rfl ?_
        refine ax_iload_n (q := 34) (i := 2) dX12_areTied_33 rfl rfl rfl ?_
        refine ax_callVfi (q := 37) (As := [ax_i x3, ax_i x2]) (st := []) (x := (if (((σ.1 15 (Int32.toNatClampNeg (((16 : Int32) + ((4 : Int32) * x3)) + (0 : Int32)))) = x2) ∨ (¬ (¬ (σ.1 15 (Int32.toNatClampNeg (((16 : Int32) + ((4 : Int32) * x3)) + (1 : Int32)))) = x2))) then (1 : Int32) else 0)) (σ2 := σ) dX12_areTied_34 rfl lk_X12_315 shM_0 rfl rfl rfl rfl (Nat.le_of_ble_eq_true rfl) (f_X12_isAt σ x3 x2 (h7 c1 c2 c3) (h8 c1 c2 c3) (d := d) (by omega)) ?_
        refine ax_if_eqB (tgt := 42) (q := 40) dX12_areTied_37 (by decide) rfl (fun c4 => ?_) (fun c4 => ?_)
        · refine ax_iincK (q := 45) (lv2 := [some (ax_r 0), some (ax_i x1), some (ax_i x2), some (ax_i (x3 + (1 : Int32)))]) dX12_areTied_42 rfl rfl ki_1 (by decide) rfl rfl ?_
          refine ax_goto (tgt := 2) dX12_areTied_45 (by decide) ?_
          exact (k9 c1 c2 c3 c4)
        · refine ax_iconst (q := 41) dX12_areTied_40 rfl ki_1 ?_
          exact ax_iret dX12_areTied_41 rfl rfl (k10 c1 c2 c3 c4)
set_option maxRecDepth 20000 in
theorem f_X12_areChapels (σ : ax_S) (a0 : Int32) (a1 : Int32) (h1 : vp_in (((4 : Int32) * a0) + (3 : Int32)) 32) (h2 : (¬ (¬ (σ.1 14 (Int32.toNatClampNeg (((4 : Int32) * a0) + (3 : Int32)))) = (2 : Int32))) → vp_in (((4 : Int32) * a1) + (3 : Int32)) 32) {d : Nat} (hd : 2 ≤ d) : ax_Ct shM d mX12_areChapels [ax_r 0, ax_i a0, ax_i a1] (fun r u => r = some (ax_i (if ((¬ (¬ (σ.1 14 (Int32.toNatClampNeg (((4 : Int32) * a0) + (3 : Int32)))) = (2 : Int32))) ∧ (¬ (¬ (σ.1 14 (Int32.toNatClampNeg (((4 : Int32) * a1) + (3 : Int32)))) = (2 : Int32)))) then (1 : Int32) else 0)) ∧ u = σ) σ := by
  obtain ⟨d, rfl⟩ : ∃ e, d = e + 1 := ⟨d - 1, by omega⟩
  refine ax_Ct.of (lv := [some (ax_r 0), some (ax_i a0), some (ax_i a1)]) (by decide +kernel) (fun ad => Nat.le_of_ble_eq_true rfl) (fun ad => rfl) ?_
  refine ax_aload_n (q := 1) (i := 0) dX12_areChapels_0 rfl rfl rfl ?_
  refine ax_iload_n (q := 2) (i := 1) dX12_areChapels_1 rfl rfl rfl ?_
  refine ax_iconst (q := 3) dX12_areChapels_2 rfl ki_3 ?_
  refine ax_callVfi (q := 6) (As := [ax_i a0, ax_i (3 : Int32)]) (st := []) (x := (σ.1 14 (Int32.toNatClampNeg (((4 : Int32) * a0) + (3 : Int32))))) (σ2 := σ) dX12_areChapels_3 rfl lk_X12_277 shM_0 rfl rfl rfl rfl (Nat.le_of_ble_eq_true rfl) (f_X12_of σ a0 (3 : Int32) h1 (d := d) (by omega)) ?_
  refine ax_iconst (q := 7) dX12_areChapels_6 rfl ki_2 ?_
  have K3 : ax_W shM (d + 1) mX12_areChapels (fun r u => r = some (ax_i (if ((¬ (¬ (σ.1 14 (Int32.toNatClampNeg (((4 : Int32) * a0) + (3 : Int32)))) = (2 : Int32))) ∧ (¬ (¬ (σ.1 14 (Int32.toNatClampNeg (((4 : Int32) * a1) + (3 : Int32)))) = (2 : Int32)))) then (1 : Int32) else 0)) ∧ u = σ) 25 [some (ax_r 0), some (ax_i a0), some (ax_i a1)] [ax_i (if ((¬ (¬ (σ.1 14 (Int32.toNatClampNeg (((4 : Int32) * a0) + (3 : Int32)))) = (2 : Int32))) ∧ (¬ (¬ (σ.1 14 (Int32.toNatClampNeg (((4 : Int32) * a1) + (3 : Int32)))) = (2 : Int32)))) then (1 : Int32) else 0)] σ := by
    exact ax_iret dX12_areChapels_25 rfl (ax_nb _) ⟨rfl, rfl⟩
  refine ax_icmp_ne (tgt := 24) (q := 10) dX12_areChapels_7 (by decide) rfl (fun c1 => ?_) (fun c1 => ?_)
  · refine ax_iconst (q := 25) dX12_areChapels_24 rfl ki_0 ?_
    exact ax_cv (if_neg (fun z => (fun y => y c1) z.1)) K3
  · refine ax_aload_n (q := 11) (i := 0) dX12_areChapels_10 rfl rfl rfl ?_
    refine ax_iload_n (q := 12) (i := 2) dX12_areChapels_11 rfl rfl rfl ?_
    refine ax_iconst (q := 13) dX12_areChapels_12 rfl ki_3 ?_
    refine ax_callVfi (q := 16) (As := [ax_i a1, ax_i (3 : Int32)]) (st := []) (x := (σ.1 14 (Int32.toNatClampNeg (((4 : Int32) * a1) + (3 : Int32))))) (σ2 := σ) dX12_areChapels_13 rfl lk_X12_277 shM_0 rfl rfl rfl rfl (Nat.le_of_ble_eq_true rfl) (f_X12_of σ a1 (3 : Int32) (h2 c1) (d := d) (by omega)) ?_
    refine ax_iconst (q := 17) dX12_areChapels_16 rfl ki_2 ?_
    refine ax_icmp_ne (tgt := 24) (q := 20) dX12_areChapels_17 (by decide) rfl (fun c2 => ?_) (fun c2 => ?_)
    · refine ax_iconst (q := 25) dX12_areChapels_24 rfl ki_0 ?_
      exact ax_cv (if_neg (fun z => (fun y => y c2) z.2)) K3
    · refine ax_iconst (q := 21) dX12_areChapels_20 rfl ki_1 ?_
      refine ax_goto (tgt := 25) dX12_areChapels_21 (by decide) ?_
      exact ax_cv (if_pos ⟨c1, c2⟩) K3
set_option maxRecDepth 20000 in
theorem f_X12_sendPart (σ : ax_S) (a0 : Int32) (a1 : Int32) (a2 : Int32) (h1 : vp_in (σ.1 0 34) 36) {d : Nat} (hd : 1 ≤ d) : ax_Ct shM d mX12_sendPart [ax_r 0, ax_i a0, ax_i a1, ax_i a2] (fun r u => r = none ∧ u = (ax_ui (ax_ui (ax_ui (ax_ui σ 17 (Int32.toNatClampNeg (σ.1 0 34)) a0) 18 (Int32.toNatClampNeg (σ.1 0 34)) a1) 19 (Int32.toNatClampNeg (σ.1 0 34)) a2) 0 34 ((σ.1 0 34) + (1 : Int32)))) σ := by
  obtain ⟨d, rfl⟩ : ∃ e, d = e + 1 := ⟨d - 1, by omega⟩
  refine ax_Ct.of (lv := [some (ax_r 0), some (ax_i a0), some (ax_i a1), some (ax_i a2)]) (by decide +kernel) (fun ad => Nat.le_of_ble_eq_true rfl) (fun ad => rfl) ?_
  refine ax_aload_n (q := 1) (i := 0) dX12_sendPart_0 rfl rfl rfl ?_
  refine ax_get (q := 4) (k := 0) (j := 30) (v := ax_r 17) dX12_sendPart_1 rfl shM_0 rfl rfl rfl (by decide) fl_X12_65 ?_
  refine ax_aload_n (q := 5) (i := 0) dX12_sendPart_4 rfl rfl rfl ?_
  refine ax_get (q := 8) (k := 0) (j := 34) (v := ax_i (σ.1 0 34)) dX12_sendPart_5 rfl shM_0 rfl rfl rfl (by decide) fl_X12_318 ?_
  refine ax_iload_n (q := 9) (i := 1) dX12_sendPart_8 rfl rfl rfl ?_
  refine ax_iast (q := 10) (a := (Int32.toNatClampNeg (σ.1 0 34))) dX12_sendPart_9 rfl shM_17 h1 rfl ?_
  refine ax_aload_n (q := 11) (i := 0) dX12_sendPart_10 rfl rfl rfl ?_
  refine ax_get (q := 14) (k := 0) (j := 31) (v := ax_r 18) dX12_sendPart_11 rfl shM_0 rfl rfl rfl (by decide) fl_X12_68 ?_
  refine ax_aload_n (q := 15) (i := 0) dX12_sendPart_14 rfl rfl rfl ?_
  refine ax_get (q := 18) (k := 0) (j := 34) (v := ax_i (σ.1 0 34)) dX12_sendPart_15 rfl shM_0 rfl rfl rfl (by decide) fl_X12_318 ?_
  refine ax_iload_n (q := 19) (i := 2) dX12_sendPart_18 rfl rfl rfl ?_
  refine ax_iast (q := 20) (a := (Int32.toNatClampNeg (σ.1 0 34))) dX12_sendPart_19 rfl shM_18 h1 rfl ?_
  refine ax_aload_n (q := 21) (i := 0) dX12_sendPart_20 rfl rfl rfl ?_
  refine ax_get (q := 24) (k := 0) (j := 32) (v := ax_r 19) dX12_sendPart_21 rfl shM_0 rfl rfl rfl (by decide) fl_X12_71 ?_
  refine ax_aload_n (q := 25) (i := 0) dX12_sendPart_24 rfl rfl rfl ?_
  refine ax_get (q := 28) (k := 0) (j := 34) (v := ax_i (σ.1 0 34)) dX12_sendPart_25 rfl shM_0 rfl rfl rfl (by decide) fl_X12_318 ?_
  refine ax_iload_n (q := 29) (i := 3) dX12_sendPart_28 rfl rfl rfl ?_
  refine ax_iast (q := 30) (a := (Int32.toNatClampNeg (σ.1 0 34))) dX12_sendPart_29 rfl shM_19 h1 rfl ?_
  refine ax_aload_n (q := 31) (i := 0) dX12_sendPart_30 rfl rfl rfl ?_
  refine ax_dupr (q := 32) dX12_sendPart_31 rfl ?_
  refine ax_get (q := 35) (k := 0) (j := 34) (v := ax_i (σ.1 0 34)) dX12_sendPart_32 rfl shM_0 rfl rfl rfl (by decide) fl_X12_318 ?_
  refine ax_iconst (q := 36) dX12_sendPart_35 rfl ki_1 ?_
  refine ax_iadd (q := 37) dX12_sendPart_36 rfl ?_
  refine ax_puti (q := 40) (k := 0) (j := 34) dX12_sendPart_37 rfl shM_0 rfl rfl (by decide) fl_X12_318 rfl rfl rfl rfl ?_
  exact ax_vret dX12_sendPart_40 rfl ⟨rfl, rfl⟩
set_option maxRecDepth 20000 in
theorem s_X12_keepsBy_0 {d : Nat} (hd : 1 ≤ d) {Q : Option ax_V → ax_S → Prop} (σ : ax_S) (a0 : Int32) (a1 : Int32) (a2 : Int32) (h1 : ¬ (a2 + (1 : Int32)) = 0) (k2 : ((σ.1 0 27) = (-1 : Int32)) → Q (some (ax_i (if (0 : Int32) < (if ((a1 / (a2 + (1 : Int32))) + (σ.1 0 24)) < a1 then ((a1 / (a2 + (1 : Int32))) + (σ.1 0 24)) else a1) then (if ((a1 / (a2 + (1 : Int32))) + (σ.1 0 24)) < a1 then ((a1 / (a2 + (1 : Int32))) + (σ.1 0 24)) else a1) else (0 : Int32)))) σ) (h3 : (¬ ((σ.1 0 27) = (-1 : Int32))) → vp_in (((4 : Int32) * a0) + (1 : Int32)) 32) (h4 : (¬ ((σ.1 0 27) = (-1 : Int32))) → vp_in ((0 : Int32) + a0) 268) (h5 : (¬ ((σ.1 0 27) = (-1 : Int32))) → vp_in (((4 : Int32) * a0) + (3 : Int32)) 32) (k6 : (¬ ((σ.1 0 27) = (-1 : Int32))) → ax_Ct shM d mX12_worthOf [ax_r 0, ax_i (σ.1 0 27)] (fun r u => ∃ x : Int32, r = some (ax_i x) ∧ ax_W shM (d + 1) mX12_keepsBy Q 90 [none, none, some (ax_i a1), none, none] (ax_i x :: []) u) (ax_ui (ax_ui (ax_ui (ax_ui (ax_ui (ax_ui σ 9 0 a1) 9 1 (σ.1 14 (Int32.toNatClampNeg (((4 : Int32) * a0) + (1 : Int32))))) 9 2 (σ.1 15 (Int32.toNatClampNeg ((0 : Int32) + a0)))) 9 3 (σ.1 14 (Int32.toNatClampNeg (((4 : Int32) * a0) + (3 : Int32))))) 9 4 a2) 9 5 (σ.1 0 24))) : ax_W shM (d + 1) mX12_keepsBy Q 0 [some (ax_r 0), some (ax_i a0), some (ax_i a1), some (ax_i a2), none] [] σ := by
  refine ax_iload_n (q := 1) (i := 2) dX12_keepsBy_0 rfl rfl rfl ?_
  refine ax_iload_n (q := 2) (i := 3) dX12_keepsBy_1 rfl rfl rfl ?_
  refine ax_iconst (q := 3) dX12_keepsBy_2 rfl ki_1 ?_
  refine ax_iadd (q := 4) dX12_keepsBy_3 rfl ?_
  refine ax_idiv (q := 5) dX12_keepsBy_4 rfl h1 ?_
  refine ax_aload_n (q := 6) (i := 0) dX12_keepsBy_5 rfl rfl rfl ?_
  refine ax_get (q := 9) (k := 0) (j := 24) (v := ax_i (σ.1 0 24)) dX12_keepsBy_6 rfl shM_0 rfl rfl rfl (by decide) fl_X12_274 ?_
  refine ax_iadd (q := 10) dX12_keepsBy_9 rfl ?_
  refine ax_istore (q := 12) (lv2 := [some (ax_r 0), some (ax_i a0), some (ax_i a1), some (ax_i a2), some (ax_i ((a1 / (a2 + (1 : Int32))) + (σ.1 0 24)))]) dX12_keepsBy_10 rfl (by decide) rfl rfl ?_
  refine ax_aload_n (q := 13) (i := 0) dX12_keepsBy_12 rfl rfl rfl ?_
  refine ax_get (q := 16) (k := 0) (j := 27) (v := ax_i (σ.1 0 27)) dX12_keepsBy_13 rfl shM_0 rfl rfl rfl (by decide) fl_X12_58 ?_
  refine ax_iconst (q := 17) dX12_keepsBy_16 rfl ki_m1 ?_
  refine ax_icmp_eq (tgt := 92) (q := 20) dX12_keepsBy_17 (by decide) rfl (fun c1 => ?_) (fun c1 => ?_)
  · refine ax_iconst (q := 93) dX12_keepsBy_92 rfl ki_0 ?_
    refine ax_iload_n (q := 94) (i := 2) dX12_keepsBy_93 rfl rfl rfl ?_
    refine ax_iload (q := 96) dX12_keepsBy_94 rfl rfl ?_
    refine ax_mmin (q := 99) dX12_keepsBy_96 rfl mk_X12_253 (Nat.le_of_ble_eq_true rfl) ?_
    refine ax_mmax (q := 102) dX12_keepsBy_99 rfl mk_X12_255 (Nat.le_of_ble_eq_true rfl) ?_
    exact ax_iret dX12_keepsBy_102 rfl rfl (k2 c1)
  · refine ax_aload_n (q := 21) (i := 0) dX12_keepsBy_20 rfl rfl rfl ?_
    refine ax_get (q := 24) (k := 0) (j := 15) (v := ax_r 9) dX12_keepsBy_21 rfl shM_0 rfl rfl rfl (by decide) fl_X12_34 ?_
    refine ax_iconst (q := 25) dX12_keepsBy_24 rfl ki_0 ?_
    refine ax_iload_n (q := 26) (i := 2) dX12_keepsBy_25 rfl rfl rfl ?_
    refine ax_iast (q := 27) (a := 0) dX12_keepsBy_26 rfl shM_9 (ax_inl 0 6 (by decide) (by decide)) rfl ?_
    refine ax_aload_n (q := 28) (i := 0) dX12_keepsBy_27 rfl rfl rfl ?_
    refine ax_get (q := 31) (k := 0) (j := 15) (v := ax_r 9) dX12_keepsBy_28 rfl shM_0 rfl rfl rfl (by decide) fl_X12_34 ?_
    refine ax_iconst (q := 32) dX12_keepsBy_31 rfl ki_1 ?_
    refine ax_aload_n (q := 33) (i := 0) dX12_keepsBy_32 rfl rfl rfl ?_
    refine ax_iload_n (q := 34) (i := 1) dX12_keepsBy_33 rfl rfl rfl ?_
    refine ax_iconst (q := 35) dX12_keepsBy_34 rfl ki_1 ?_
    refine ax_callVfi (q := 38) (As := [ax_i a0, ax_i (1 : Int32)]) (st := [ax_i (1 : Int32), ax_r 9]) (x := (σ.1 14 (Int32.toNatClampNeg (((4 : Int32) * a0) + (1 : Int32))))) (σ2 := (ax_ui σ 9 0 a1)) dX12_keepsBy_35 rfl lk_X12_277 shM_0 rfl rfl rfl rfl (Nat.le_of_ble_eq_true rfl) (f_X12_of (ax_ui σ 9 0 a1) a0 (1 : Int32) (h3 c1) (d := d) (by omega)) ?_
    refine ax_iast (q := 39) (a := 1) dX12_keepsBy_38 rfl shM_9 (ax_inl 1 6 (by decide) (by decide)) rfl ?_
    refine ax_aload_n (q := 40) (i := 0) dX12_keepsBy_39 rfl rfl rfl ?_
    refine ax_get (q := 43) (k := 0) (j := 15) (v := ax_r 9) dX12_keepsBy_40 rfl shM_0 rfl rfl rfl (by decide) fl_X12_34 ?_
    refine ax_iconst (q := 44) dX12_keepsBy_43 rfl ki_2 ?_
    refine ax_aload_n (q := 45) (i := 0) dX12_keepsBy_44 rfl rfl rfl ?_
    refine ax_get (q := 48) (k := 0) (j := 25) (v := ax_r 15) dX12_keepsBy_45 rfl shM_0 rfl rfl rfl (by decide) fl_X12_52 ?_
    refine ax_iconst (q := 49) dX12_keepsBy_48 rfl ki_0 ?_
    refine ax_iload_n (q := 50) (i := 1) dX12_keepsBy_49 rfl rfl rfl ?_
    refine ax_iadd (q := 51) dX12_keepsBy_50 rfl ?_
    refine ax_iald (q := 52) (a := (Int32.toNatClampNeg ((0 : Int32) + a0))) (v := (σ.1 15 (Int32.toNatClampNeg ((0 : Int32) + a0)))) dX12_keepsBy_51 rfl shM_15 (h4 c1) rfl rfl ?_
    refine ax_iast (q := 53) (a := 2) dX12_keepsBy_52 rfl shM_9 (ax_inl 2 6 (by decide) (by decide)) rfl ?_
    refine ax_aload_n (q := 54) (i := 0) dX12_keepsBy_53 rfl rfl rfl ?_
    refine ax_get (q := 57) (k := 0) (j := 15) (v := ax_r 9) dX12_keepsBy_54 rfl shM_0 rfl rfl rfl (by decide) fl_X12_34 ?_
    refine ax_iconst (q := 58) dX12_keepsBy_57 rfl ki_3 ?_
    refine ax_aload_n (q := 59) (i := 0) dX12_keepsBy_58 rfl rfl rfl ?_
    refine ax_iload_n (q := 60) (i := 1) dX12_keepsBy_59 rfl rfl rfl ?_
    refine ax_iconst (q := 61) dX12_keepsBy_60 rfl ki_3 ?_
    refine ax_callVfi (q := 64) (As := [ax_i a0, ax_i (3 : Int32)]) (st := [ax_i (3 : Int32), ax_r 9]) (x := (σ.1 14 (Int32.toNatClampNeg (((4 : Int32) * a0) + (3 : Int32))))) (σ2 := (ax_ui (ax_ui (ax_ui σ 9 0 a1) 9 1 (σ.1 14 (Int32.toNatClampNeg (((4 : Int32) * a0) + (1 : Int32))))) 9 2 (σ.1 15 (Int32.toNatClampNeg ((0 : Int32) + a0))))) dX12_keepsBy_61 rfl lk_X12_277 shM_0 rfl rfl rfl rfl (Nat.le_of_ble_eq_true rfl) (f_X12_of (ax_ui (ax_ui (ax_ui σ 9 0 a1) 9 1 (σ.1 14 (Int32.toNatClampNeg (((4 : Int32) * a0) + (1 : Int32))))) 9 2 (σ.1 15 (Int32.toNatClampNeg ((0 : Int32) + a0)))) a0 (3 : Int32) (h5 c1) (d := d) (by omega)) ?_
    refine ax_iast (q := 65) (a := 3) dX12_keepsBy_64 rfl shM_9 (ax_inl 3 6 (by decide) (by decide)) rfl ?_
    refine ax_aload_n (q := 66) (i := 0) dX12_keepsBy_65 rfl rfl rfl ?_
    refine ax_get (q := 69) (k := 0) (j := 15) (v := ax_r 9) dX12_keepsBy_66 rfl shM_0 rfl rfl rfl (by decide) fl_X12_34 ?_
    refine ax_iconst (q := 70) dX12_keepsBy_69 rfl ki_4 ?_
    refine ax_iload_n (q := 71) (i := 3) dX12_keepsBy_70 rfl rfl rfl ?_
    refine ax_iast (q := 72) (a := 4) dX12_keepsBy_71 rfl shM_9 (ax_inl 4 6 (by decide) (by decide)) rfl ?_
    refine ax_aload_n (q := 73) (i := 0) dX12_keepsBy_72 rfl rfl rfl ?_
    refine ax_get (q := 76) (k := 0) (j := 15) (v := ax_r 9) dX12_keepsBy_73 rfl shM_0 rfl rfl rfl (by decide) fl_X12_34 ?_
    refine ax_iconst (q := 77) dX12_keepsBy_76 rfl ki_5 ?_
    refine ax_aload_n (q := 78) (i := 0) dX12_keepsBy_77 rfl rfl rfl ?_
    refine ax_get (q := 81) (k := 0) (j := 24) (v := ax_i (σ.1 0 24)) dX12_keepsBy_78 rfl shM_0 rfl rfl rfl (by decide) fl_X12_274 ?_
    refine ax_iast (q := 82) (a := 5) dX12_keepsBy_81 rfl shM_9 (ax_inl 5 6 (by decide) (by decide)) rfl ?_
    refine ax_aload_n (q := 83) (i := 0) dX12_keepsBy_82 rfl rfl rfl ?_
    refine ax_aload_n (q := 84) (i := 0) dX12_keepsBy_83 rfl rfl rfl ?_
    refine ax_get (q := 87) (k := 0) (j := 27) (v := ax_i (σ.1 0 27)) dX12_keepsBy_84 rfl shM_0 rfl rfl rfl (by decide) fl_X12_58 ?_
    refine ax_fg (lv2 := [none, none, some (ax_i a1), none, none]) ⟨rfl, trivial⟩ ?_
    exact ax_callVci (q := 90) (As := [ax_i (σ.1 0 27)]) (st := []) dX12_keepsBy_87 rfl lk_X12_321 shM_0 rfl rfl rfl rfl (Nat.le_of_ble_eq_true rfl) (k6 c1)
set_option maxRecDepth 20000 in
theorem s_X12_keepsBy_90 {d : Nat} (hd : 0 ≤ d) {Q : Option ax_V → ax_S → Prop} (σ : ax_S) (x2 : Int32) (rr : Int32) (k1 : Q (some (ax_i (if (0 : Int32) < (if rr < x2 then rr else x2) then (if rr < x2 then rr else x2) else (0 : Int32)))) σ) : ax_W shM (d + 1) mX12_keepsBy Q 90 [none, none, some (ax_i x2), none, none] [ax_i rr] σ := by
  refine ax_istore (q := 92) (lv2 := [none, none, some (ax_i x2), none, some (ax_i rr)]) dX12_keepsBy_90 rfl (by decide) rfl rfl ?_
  refine ax_iconst (q := 93) dX12_keepsBy_92 rfl ki_0 ?_
  refine ax_iload_n (q := 94) (i := 2) dX12_keepsBy_93 rfl rfl rfl ?_
  refine ax_iload (q := 96) dX12_keepsBy_94 rfl rfl ?_
  refine ax_mmin (q := 99) dX12_keepsBy_96 rfl mk_X12_253 (Nat.le_of_ble_eq_true rfl) ?_
  refine ax_mmax (q := 102) dX12_keepsBy_99 rfl mk_X12_255 (Nat.le_of_ble_eq_true rfl) ?_
  exact ax_iret dX12_keepsBy_102 rfl rfl k1
