set_option maxRecDepth 20000 in
theorem s_X12_term_0 {d : Nat} (hd : 0 ≤ d) {Q : Option ax_V → ax_S → Prop} (σ : ax_S)  (k1 : ax_Ct shM d mX12_atom [ax_r 0] (fun r u => r = none ∧ ax_W shM (d + 1) mX12_term Q 4 [some (ax_r 0), none] [] u) σ) : ax_W shM (d + 1) mX12_term Q 0 [some (ax_r 0), none] [] σ := by
  refine ax_aload_n (q := 1) (i := 0) dX12_term_0 rfl rfl rfl ?_
  exact ax_callVcv (q := 4) (As := []) (st := []) dX12_term_1 rfl lk_X12_165 shM_0 rfl rfl rfl rfl (Nat.le_of_ble_eq_true rfl) k1
set_option maxRecDepth 20000 in
theorem s_X12_term_4 {d : Nat} (hd : 0 ≤ d) {Q : Option ax_V → ax_S → Prop} (σ : ax_S)  (k1 : (¬ (σ.1 0 4) = (-1 : Int32)) → ax_W shM (d + 1) mX12_term Q 21 [some (ax_r 0), some (ax_i (-1 : Int32))] [] σ) (k2 : (¬ (¬ (σ.1 0 4) = (-1 : Int32))) → ax_Ct shM d mX12_look [ax_r 0] (fun r u => ∃ x : Int32, r = some (ax_i x) ∧ ax_W shM (d + 1) mX12_term Q 16 [some (ax_r 0), none] (ax_i x :: []) u) σ) : ax_W shM (d + 1) mX12_term Q 4 [some (ax_r 0), none] [] σ := by
  refine ax_aload_n (q := 5) (i := 0) dX12_term_4 rfl rfl rfl ?_
  refine ax_get (q := 8) (k := 0) (j := 4) (v := ax_i (σ.1 0 4)) dX12_term_5 rfl shM_0 rfl rfl rfl (by decide) fl_X12_125 ?_
  refine ax_iconst (q := 9) dX12_term_8 rfl ki_m1 ?_
  refine ax_icmp_ne (tgt := 19) (q := 12) dX12_term_9 (by decide) rfl (fun c1 => ?_) (fun c1 => ?_)
  · refine ax_iconst (q := 20) dX12_term_19 rfl ki_m1 ?_
    refine ax_istore_n (q := 21) (i := 1) (lv2 := [some (ax_r 0), some (ax_i (-1 : Int32))]) dX12_term_20 rfl rfl (by decide) rfl rfl ?_
    exact (k1 c1)
  · refine ax_aload_n (q := 13) (i := 0) dX12_term_12 rfl rfl rfl ?_
    exact ax_callVci (q := 16) (As := []) (st := []) dX12_term_13 rfl lk_X12_137 shM_0 rfl rfl rfl rfl (Nat.le_of_ble_eq_true rfl) (k2 c1)
set_option maxRecDepth 20000 in
theorem s_X12_term_16 {d : Nat} (hd : 0 ≤ d) {Q : Option ax_V → ax_S → Prop} (σ : ax_S) (rr : Int32) (k1 : ax_W shM (d + 1) mX12_term Q 21 [some (ax_r 0), some (ax_i rr)] [] σ) : ax_W shM (d + 1) mX12_term Q 16 [some (ax_r 0), none] [ax_i rr] σ := by
  refine ax_goto (tgt := 20) dX12_term_16 (by decide) ?_
  refine ax_istore_n (q := 21) (i := 1) (lv2 := [some (ax_r 0), some (ax_i rr)]) dX12_term_20 rfl rfl (by decide) rfl rfl ?_
  exact k1
set_option maxRecDepth 20000 in
theorem s_X12_term_21 {d : Nat} (hd : 0 ≤ d) {Q : Option ax_V → ax_S → Prop} (σ : ax_S) (x1 : Int32) (k1 : (x1 = (42 : Int32)) → ax_Ct shM d mX12_atom [ax_r 0] (fun r u => r = none ∧ ax_W shM (d + 1) mX12_term Q 47 [some (ax_r 0), some (ax_i x1)] [] u) (ax_ui σ 0 3 ((σ.1 0 3) + (1 : Int32)))) (k2 : (¬ (x1 = (42 : Int32))) → (¬ x1 = (47 : Int32)) → Q none σ) (k3 : (¬ (x1 = (42 : Int32))) → (¬ (¬ x1 = (47 : Int32))) → ax_Ct shM d mX12_atom [ax_r 0] (fun r u => r = none ∧ ax_W shM (d + 1) mX12_term Q 47 [some (ax_r 0), some (ax_i x1)] [] u) (ax_ui σ 0 3 ((σ.1 0 3) + (1 : Int32)))) : ax_W shM (d + 1) mX12_term Q 21 [some (ax_r 0), some (ax_i x1)] [] σ := by
  refine ax_iload_n (q := 22) (i := 1) dX12_term_21 rfl rfl rfl ?_
  refine ax_bipush (q := 24) dX12_term_22 rfl kb_42 ?_
  refine ax_icmp_eq (tgt := 33) (q := 27) dX12_term_24 (by decide) rfl (fun c1 => ?_) (fun c1 => ?_)
  · refine ax_aload_n (q := 34) (i := 0) dX12_term_33 rfl rfl rfl ?_
    refine ax_dupr (q := 35) dX12_term_34 rfl ?_
    refine ax_get (q := 38) (k := 0) (j := 3) (v := ax_i (σ.1 0 3)) dX12_term_35 rfl shM_0 rfl rfl rfl (by decide) fl_X12_118 ?_
    refine ax_iconst (q := 39) dX12_term_38 rfl ki_1 ?_
    refine ax_iadd (q := 40) dX12_term_39 rfl ?_
    refine ax_puti (q := 43) (k := 0) (j := 3) dX12_term_40 rfl shM_0 rfl rfl (by decide) fl_X12_118 rfl rfl rfl rfl ?_
    refine ax_aload_n (q := 44) (i := 0) dX12_term_43 rfl rfl rfl ?_
    exact ax_callVcv (q := 47) (As := []) (st := []) dX12_term_44 rfl lk_X12_165 shM_0 rfl rfl rfl rfl (Nat.le_of_ble_eq_true rfl) (k1 c1)
  · refine ax_iload_n (q := 28) (i := 1) dX12_term_27 rfl rfl rfl ?_
    refine ax_bipush (q := 30) dX12_term_28 rfl kb_47 ?_
    refine ax_icmp_ne (tgt := 83) (q := 33) dX12_term_30 (by decide) rfl (fun c2 => ?_) (fun c2 => ?_)
    · exact ax_vret dX12_term_83 rfl (k2 c1 c2)
    · refine ax_aload_n (q := 34) (i := 0) dX12_term_33 rfl rfl rfl ?_
      refine ax_dupr (q := 35) dX12_term_34 rfl ?_
      refine ax_get (q := 38) (k := 0) (j := 3) (v := ax_i (σ.1 0 3)) dX12_term_35 rfl shM_0 rfl rfl rfl (by decide) fl_X12_118 ?_
      refine ax_iconst (q := 39) dX12_term_38 rfl ki_1 ?_
      refine ax_iadd (q := 40) dX12_term_39 rfl ?_
      refine ax_puti (q := 43) (k := 0) (j := 3) dX12_term_40 rfl shM_0 rfl rfl (by decide) fl_X12_118 rfl rfl rfl rfl ?_
      refine ax_aload_n (q := 44) (i := 0) dX12_term_43 rfl rfl rfl ?_
      exact ax_callVcv (q := 47) (As := []) (st := []) dX12_term_44 rfl lk_X12_165 shM_0 rfl rfl rfl rfl (Nat.le_of_ble_eq_true rfl) (k3 c1 c2)
set_option maxRecDepth 20000 in
theorem s_X12_term_47 {d : Nat} (hd : 1 ≤ d) {Q : Option ax_V → ax_S → Prop} (σ : ax_S) (x1 : Int32) (h1 : vp_in (σ.1 0 14) 5) (h2 : vp_in (((520 : Int32) * (σ.1 0 14)) + (σ.1 4 (Int32.toNatClampNeg (σ.1 0 14)))) 2600) (k3 : (¬ (σ.1 0 4) = (-1 : Int32)) → ax_W shM (d + 1) mX12_term Q 21 [some (ax_r 0), some (ax_i (-1 : Int32))] [] (ax_ui (ax_ui (ax_ui σ 2 (Int32.toNatClampNeg (((520 : Int32) * (σ.1 0 14)) + (σ.1 4 (Int32.toNatClampNeg (σ.1 0 14))))) (if (¬ x1 = (42 : Int32)) then (5 : Int32) else (4 : Int32))) 3 (Int32.toNatClampNeg (((520 : Int32) * (σ.1 0 14)) + (σ.1 4 (Int32.toNatClampNeg (σ.1 0 14))))) (0 : Int32)) 4 (Int32.toNatClampNeg (σ.1 0 14)) ((σ.1 4 (Int32.toNatClampNeg (σ.1 0 14))) + (1 : Int32)))) (k4 : (¬ (¬ (σ.1 0 4) = (-1 : Int32))) → ax_Ct shM d mX12_look [ax_r 0] (fun r u => ∃ x : Int32, r = some (ax_i x) ∧ ax_W shM (d + 1) mX12_term Q 75 [some (ax_r 0), none] (ax_i x :: []) u) (ax_ui (ax_ui (ax_ui σ 2 (Int32.toNatClampNeg (((520 : Int32) * (σ.1 0 14)) + (σ.1 4 (Int32.toNatClampNeg (σ.1 0 14))))) (if (¬ x1 = (42 : Int32)) then (5 : Int32) else (4 : Int32))) 3 (Int32.toNatClampNeg (((520 : Int32) * (σ.1 0 14)) + (σ.1 4 (Int32.toNatClampNeg (σ.1 0 14))))) (0 : Int32)) 4 (Int32.toNatClampNeg (σ.1 0 14)) ((σ.1 4 (Int32.toNatClampNeg (σ.1 0 14))) + (1 : Int32)))) : ax_W shM (d + 1) mX12_term Q 47 [some (ax_r 0), some (ax_i x1)] [] σ := by
  refine ax_aload_n (q := 48) (i := 0) dX12_term_47 rfl rfl rfl ?_
  refine ax_iload_n (q := 49) (i := 1) dX12_term_48 rfl rfl rfl ?_
  refine ax_bipush (q := 51) dX12_term_49 rfl kb_42 ?_
  have K2 : ax_W shM (d + 1) mX12_term Q 59 [some (ax_r 0), some (ax_i x1)] [ax_i (if (¬ x1 = (42 : Int32)) then (5 : Int32) else (4 : Int32)), ax_r 0] σ := by
    refine ax_iconst (q := 60) dX12_term_59 rfl ki_0 ?_
    refine ax_callVfv (q := 63) (As := [ax_i (if (¬ x1 = (42 : Int32)) then (5 : Int32) else (4 : Int32)), ax_i (0 : Int32)]) (st := []) (σ2 := (ax_ui (ax_ui (ax_ui σ 2 (Int32.toNatClampNeg (((520 : Int32) * (σ.1 0 14)) + (σ.1 4 (Int32.toNatClampNeg (σ.1 0 14))))) (if (¬ x1 = (42 : Int32)) then (5 : Int32) else (4 : Int32))) 3 (Int32.toNatClampNeg (((520 : Int32) * (σ.1 0 14)) + (σ.1 4 (Int32.toNatClampNeg (σ.1 0 14))))) (0 : Int32)) 4 (Int32.toNatClampNeg (σ.1 0 14)) ((σ.1 4 (Int32.toNatClampNeg (σ.1 0 14))) + (1 : Int32)))) dX12_term_60 rfl lk_X12_147 shM_0 rfl rfl rfl rfl (Nat.le_of_ble_eq_true rfl) (f_X12_put σ (if (¬ x1 = (42 : Int32)) then (5 : Int32) else (4 : Int32)) (0 : Int32) h1 h2 (d := d) (by omega)) ?_
    refine ax_aload_n (q := 64) (i := 0) dX12_term_63 rfl rfl rfl ?_
    refine ax_get (q := 67) (k := 0) (j := 4) (v := ax_i (σ.1 0 4)) dX12_term_64 rfl shM_0 rfl rfl rfl (by decide) fl_X12_125 ?_
    refine ax_iconst (q := 68) dX12_term_67 rfl ki_m1 ?_
    refine ax_icmp_ne (tgt := 78) (q := 71) dX12_term_68 (by decide) rfl (fun c3 => ?_) (fun c3 => ?_)
    · refine ax_iconst (q := 79) dX12_term_78 rfl ki_m1 ?_
      refine ax_istore_n (q := 80) (i := 1) (lv2 := [some (ax_r 0), some (ax_i (-1 : Int32))]) dX12_term_79 rfl rfl (by decide) rfl rfl ?_
      refine ax_goto (tgt := 21) dX12_term_80 (by decide) ?_
      exact (k3 c3)
    · refine ax_aload_n (q := 72) (i := 0) dX12_term_71 rfl rfl rfl ?_
      refine ax_fg (lv2 := [some (ax_r 0), none]) ⟨rfl, trivial⟩ ?_
      exact ax_callVci (q := 75) (As := []) (st := []) dX12_term_72 rfl lk_X12_137 shM_0 rfl rfl rfl rfl (Nat.le_of_ble_eq_true rfl) (k4 c3)
  refine ax_icmp_ne (tgt := 58) (q := 54) dX12_term_51 (by decide) rfl (fun c1 => ?_) (fun c1 => ?_)
  · refine ax_iconst (q := 59) dX12_term_58 rfl ki_5 ?_
    exact ax_cv (if_pos c1) K2
  · refine ax_iconst (q := 55) dX12_term_54 rfl ki_4 ?_
    refine ax_goto (tgt := 59) dX12_term_55 (by decide) ?_
    exact ax_cv (if_neg c1) K2
set_option maxRecDepth 20000 in
theorem s_X12_term_75 {d : Nat} (hd : 0 ≤ d) {Q : Option ax_V → ax_S → Prop} (σ : ax_S) (rr : Int32) (k1 : ax_W shM (d + 1) mX12_term Q 21 [some (ax_r 0), some (ax_i rr)] [] σ) : ax_W shM (d + 1) mX12_term Q 75 [some (ax_r 0), none] [ax_i rr] σ := by
  refine ax_goto (tgt := 79) dX12_term_75 (by decide) ?_
  refine ax_istore_n (q := 80) (i := 1) (lv2 := [some (ax_r 0), some (ax_i rr)]) dX12_term_79 rfl rfl (by decide) rfl rfl ?_
  refine ax_goto (tgt := 21) dX12_term_80 (by decide) ?_
  exact k1
set_option maxRecDepth 20000 in
theorem s_X12_sum_0 {d : Nat} (hd : 0 ≤ d) {Q : Option ax_V → ax_S → Prop} (σ : ax_S)  (k1 : ax_Ct shM d mX12_term [ax_r 0] (fun r u => r = none ∧ ax_W shM (d + 1) mX12_sum Q 4 [some (ax_r 0), none] [] u) σ) : ax_W shM (d + 1) mX12_sum Q 0 [some (ax_r 0), none] [] σ := by
  refine ax_aload_n (q := 1) (i := 0) dX12_sum_0 rfl rfl rfl ?_
  exact ax_callVcv (q := 4) (As := []) (st := []) dX12_sum_1 rfl lk_X12_168 shM_0 rfl rfl rfl rfl (Nat.le_of_ble_eq_true rfl) k1
set_option maxRecDepth 20000 in
theorem s_X12_sum_4 {d : Nat} (hd : 0 ≤ d) {Q : Option ax_V → ax_S → Prop} (σ : ax_S)  (k1 : (¬ (σ.1 0 4) = (-1 : Int32)) → ax_W shM (d + 1) mX12_sum Q 21 [some (ax_r 0), some (ax_i (-1 : Int32))] [] σ) (k2 : (¬ (¬ (σ.1 0 4) = (-1 : Int32))) → ax_Ct shM d mX12_look [ax_r 0] (fun r u => ∃ x : Int32, r = some (ax_i x) ∧ ax_W shM (d + 1) mX12_sum Q 16 [some (ax_r 0), none] (ax_i x :: []) u) σ) : ax_W shM (d + 1) mX12_sum Q 4 [some (ax_r 0), none] [] σ := by
  refine ax_aload_n (q := 5) (i := 0) dX12_sum_4 rfl rfl rfl ?_
  refine ax_get (q := 8) (k := 0) (j := 4) (v := ax_i (σ.1 0 4)) dX12_sum_5 rfl shM_0 rfl rfl rfl (by decide) fl_X12_125 ?_
  refine ax_iconst (q := 9) dX12_sum_8 rfl ki_m1 ?_
  refine ax_icmp_ne (tgt := 19) (q := 12) dX12_sum_9 (by decide) rfl (fun c1 => ?_) (fun c1 => ?_)
  · refine ax_iconst (q := 20) dX12_sum_19 rfl ki_m1 ?_
    refine ax_istore_n (q := 21) (i := 1) (lv2 := [some (ax_r 0), some (ax_i (-1 : Int32))]) dX12_sum_20 rfl rfl (by decide) rfl rfl ?_
    exact (k1 c1)
  · refine ax_aload_n (q := 13) (i := 0) dX12_sum_12 rfl rfl rfl ?_
    exact ax_callVci (q := 16) (As := []) (st := []) dX12_sum_13 rfl lk_X12_137 shM_0 rfl rfl rfl rfl (Nat.le_of_ble_eq_true rfl) (k2 c1)
set_option maxRecDepth 20000 in
theorem s_X12_sum_16 {d : Nat} (hd : 0 ≤ d) {Q : Option ax_V → ax_S → Prop} (σ : ax_S) (rr : Int32) (k1 : ax_W shM (d + 1) mX12_sum Q 21 [some (ax_r 0), some (ax_i rr)] [] σ) : ax_W shM (d + 1) mX12_sum Q 16 [some (ax_r 0), none] [ax_i rr] σ := by
  refine ax_goto (tgt := 20) dX12_sum_16 (by decide) ?_
  refine ax_istore_n (q := 21) (i := 1) (lv2 := [some (ax_r 0), some (ax_i rr)]) dX12_sum_20 rfl rfl (by decide) rfl rfl ?_
  exact k1
set_option maxRecDepth 20000 in
theorem s_X12_sum_21 {d : Nat} (hd : 0 ≤ d) {Q : Option ax_V → ax_S → Prop} (σ : ax_S) (x1 : Int32) (k1 : (x1 = (43 : Int32)) → ax_Ct shM d mX12_term [ax_r 0] (fun r u => r = none ∧ ax_W shM (d + 1) mX12_sum Q 47 [some (ax_r 0), some (ax_i x1)] [] u) (ax_ui σ 0 3 ((σ.1 0 3) + (1 : Int32)))) (k2 : (¬ (x1 = (43 : Int32))) → (¬ x1 = (45 : Int32)) → Q none σ) (k3 : (¬ (x1 = (43 : Int32))) → (¬ (¬ x1 = (45 : Int32))) → ax_Ct shM d mX12_term [ax_r 0] (fun r u => r = none ∧ ax_W shM (d + 1) mX12_sum Q 47 [some (ax_r 0), some (ax_i x1)] [] u) (ax_ui σ 0 3 ((σ.1 0 3) + (1 : Int32)))) : ax_W shM (d + 1) mX12_sum Q 21 [some (ax_r 0), some (ax_i x1)] [] σ := by
  refine ax_iload_n (q := 22) (i := 1) dX12_sum_21 rfl rfl rfl ?_
  refine ax_bipush (q := 24) dX12_sum_22 rfl kb_43 ?_
  refine ax_icmp_eq (tgt := 33) (q := 27) dX12_sum_24 (by decide) rfl (fun c1 => ?_) (fun c1 => ?_)
  · refine ax_aload_n (q := 34) (i := 0) dX12_sum_33 rfl rfl rfl ?_
    refine ax_dupr (q := 35) dX12_sum_34 rfl ?_
    refine ax_get (q := 38) (k := 0) (j := 3) (v := ax_i (σ.1 0 3)) dX12_sum_35 rfl shM_0 rfl rfl rfl (by decide) fl_X12_118 ?_
    refine ax_iconst (q := 39) dX12_sum_38 rfl ki_1 ?_
    refine ax_iadd (q := 40) dX12_sum_39 rfl ?_
    refine ax_puti (q := 43) (k := 0) (j := 3) dX12_sum_40 rfl shM_0 rfl rfl (by decide) fl_X12_118 rfl rfl rfl rfl ?_
    refine ax_aload_n (q := 44) (i := 0) dX12_sum_43 rfl rfl rfl ?_
    exact ax_callVcv (q := 47) (As := []) (st := []) dX12_sum_44 rfl lk_X12_168 shM_0 rfl rfl rfl rfl (Nat.le_of_ble_eq_true rfl) (k1 c1)
  · refine ax_iload_n (q := 28) (i := 1) dX12_sum_27 rfl rfl rfl ?_
    refine ax_bipush (q := 30) dX12_sum_28 rfl kb_45 ?_
    refine ax_icmp_ne (tgt := 83) (q := 33) dX12_sum_30 (by decide) rfl (fun c2 => ?_) (fun c2 => ?_)
    · exact ax_vret dX12_sum_83 rfl (k2 c1 c2)
    · refine ax_aload_n (q := 34) (i := 0) dX12_sum_33 rfl rfl rfl ?_
      refine ax_dupr (q := 35) dX12_sum_34 rfl ?_
      refine ax_get (q := 38) (k := 0) (j := 3) (v := ax_i (σ.1 0 3)) dX12_sum_35 rfl shM_0 rfl rfl rfl (by decide) fl_X12_118 ?_
      refine ax_iconst (q := 39) dX12_sum_38 rfl ki_1 ?_
      refine ax_iadd (q := 40) dX12_sum_39 rfl ?_
      refine ax_puti (q := 43) (k := 0) (j := 3) dX12_sum_40 rfl shM_0 rfl rfl (by decide) fl_X12_118 rfl rfl rfl rfl ?_
      refine ax_aload_n (q := 44) (i := 0) dX12_sum_43 rfl rfl rfl ?_
      exact ax_callVcv (q := 47) (As := []) (st := []) dX12_sum_44 rfl lk_X12_168 shM_0 rfl rfl rfl rfl (Nat.le_of_ble_eq_true rfl) (k3 c1 c2)
set_option maxRecDepth 20000 in
theorem s_X12_sum_47 {d : Nat} (hd : 1 ≤ d) {Q : Option ax_V → ax_S → Prop} (σ : ax_S) (x1 : Int32) (h1 : vp_in (σ.1 0 14) 5) (h2 : vp_in (((520 : Int32) * (σ.1 0 14)) + (σ.1 4 (Int32.toNatClampNeg (σ.1 0 14)))) 2600) (k3 : (¬ (σ.1 0 4) = (-1 : Int32)) → ax_W shM (d + 1) mX12_sum Q 21 [some (ax_r 0), some (ax_i (-1 : Int32))] [] (ax_ui (ax_ui (ax_ui σ 2 (Int32.toNatClampNeg (((520 : Int32) * (σ.1 0 14)) + (σ.1 4 (Int32.toNatClampNeg (σ.1 0 14))))) (if (¬ x1 = (43 : Int32)) then (3 : Int32) else (2 : Int32))) 3 (Int32.toNatClampNeg (((520 : Int32) * (σ.1 0 14)) + (σ.1 4 (Int32.toNatClampNeg (σ.1 0 14))))) (0 : Int32)) 4 (Int32.toNatClampNeg (σ.1 0 14)) ((σ.1 4 (Int32.toNatClampNeg (σ.1 0 14))) + (1 : Int32)))) (k4 : (¬ (¬ (σ.1 0 4) = (-1 : Int32))) → ax_Ct shM d mX12_look [ax_r 0] (fun r u => ∃ x : Int32, r = some (ax_i x) ∧ ax_W shM (d + 1) mX12_sum Q 75 [some (ax_r 0), none] (ax_i x :: []) u) (ax_ui (ax_ui (ax_ui σ 2 (Int32.toNatClampNeg (((520 : Int32) * (σ.1 0 14)) + (σ.1 4 (Int32.toNatClampNeg (σ.1 0 14))))) (if (¬ x1 = (43 : Int32)) then (3 : Int32) else (2 : Int32))) 3 (Int32.toNatClampNeg (((520 : Int32) * (σ.1 0 14)) + (σ.1 4 (Int32.toNatClampNeg (σ.1 0 14))))) (0 : Int32)) 4 (Int32.toNatClampNeg (σ.1 0 14)) ((σ.1 4 (Int32.toNatClampNeg (σ.1 0 14))) + (1 : Int32)))) : ax_W shM (d + 1) mX12_sum Q 47 [some (ax_r 0), some (ax_i x1)] [] σ := by
  refine ax_aload_n (q := 48) (i := 0) dX12_sum_47 rfl rfl rfl ?_
  refine ax_iload_n (q := 49) (i := 1) dX12_sum_48 rfl rfl rfl ?_
  refine ax_bipush (q := 51) dX12_sum_49 rfl kb_43 ?_
  have K2 : ax_W shM (d + 1) mX12_sum Q 59 [some (ax_r 0), some (ax_i x1)] [ax_i (if (¬ x1 = (43 : Int32)) then (3 : Int32) else (2 : Int32)), ax_r 0] σ := by
    refine ax_iconst (q := 60) dX12_sum_59 rfl ki_0 ?_
    refine ax_callVfv (q := 63) (As := [ax_i (if (¬ x1 = (43 : Int32)) then (3 : Int32) else (2 : Int32)), ax_i (0 : Int32)]) (st := []) (σ2 := (ax_ui (ax_ui (ax_ui σ 2 (Int32.toNatClampNeg (((520 : Int32) * (σ.1 0 14)) + (σ.1 4 (Int32.toNatClampNeg (σ.1 0 14))))) (if (¬ x1 = (43 : Int32)) then (3 : Int32) else (2 : Int32))) 3 (Int32.toNatClampNeg (((520 : Int32) * (σ.1 0 14)) + (σ.1 4 (Int32.toNatClampNeg (σ.1 0 14))))) (0 : Int32)) 4 (Int32.toNatClampNeg (σ.1 0 14)) ((σ.1 4 (Int32.toNatClampNeg (σ.1 0 14))) + (1 : Int32)))) dX12_sum_60 rfl lk_X12_147 shM_0 rfl rfl rfl rfl (Nat.le_of_ble_eq_true rfl) (f_X12_put σ (if (¬ x1 = (43 : Int32)) then (3 : Int32) else (2 : Int32)) (0 : Int32) h1 h2 (d := d) (by omega)) ?_
    refine ax_aload_n (q := 64) (i := 0) dX12_sum_63 rfl rfl rfl ?_
    refine ax_get (q := 67) (k := 0) (j := 4) (v := ax_i (σ.1 0 4)) dX12_sum_64 rfl shM_0 rfl rfl rfl (by decide) fl_X12_125 ?_
    refine ax_iconst (q := 68) dX12_sum_67 rfl ki_m1 ?_
    refine ax_icmp_ne (tgt := 78) (q := 71) dX12_sum_68 (by decide) rfl (fun c3 => ?_) (fun c3 => ?_)
    · refine ax_iconst (q := 79) dX12_sum_78 rfl ki_m1 ?_
      refine ax_istore_n (q := 80) (i := 1) (lv2 := [some (ax_r 0), some (ax_i (-1 : Int32))]) dX12_sum_79 rfl rfl (by decide) rfl rfl ?_
      refine ax_goto (tgt := 21) dX12_sum_80 (by decide) ?_
      exact (k3 c3)
    · refine ax_aload_n (q := 72) (i := 0) dX12_sum_71 rfl rfl rfl ?_
      refine ax_fg (lv2 := [some (ax_r 0), none]) ⟨rfl, trivial⟩ ?_
      exact ax_callVci (q := 75) (As := []) (st := []) dX12_sum_72 rfl lk_X12_137 shM_0 rfl rfl rfl rfl (Nat.le_of_ble_eq_true rfl) (k4 c3)
  refine ax_icmp_ne (tgt := 58) (q := 54) dX12_sum_51 (by decide) rfl (fun c1 => ?_) (fun c1 => ?_)
  · refine ax_iconst (q := 59) dX12_sum_58 rfl ki_3 ?_
    exact ax_cv (if_pos c1) K2
  · refine ax_iconst (q := 55) dX12_sum_54 rfl ki_2 ?_
    refine ax_goto (tgt := 59) dX12_sum_55 (by decide) ?_
    exact ax_cv (if_neg c1) K2
set_option maxRecDepth 20000 in
theorem s_X12_sum_75 {d : Nat} (hd : 0 ≤ d) {Q : Option ax_V → ax_S → Prop} (σ : ax_S) (rr : Int32) (k1 : ax_W shM (d + 1) mX12_sum Q 21 [some (ax_r 0), some (ax_i rr)] [] σ) : ax_W shM (d + 1) mX12_sum Q 75 [some (ax_r 0), none] [ax_i rr] σ := by
  refine ax_goto (tgt := 79) dX12_sum_75 (by decide) ?_
  refine ax_istore_n (q := 80) (i := 1) (lv2 := [some (ax_r 0), some (ax_i rr)]) dX12_sum_79 rfl rfl (by decide) rfl rfl ?_
  refine ax_goto (tgt := 21) dX12_sum_80 (by decide) ?_
  exact k1
set_option maxRecDepth 20000 in
theorem s_X12_atom_0 {d : Nat} (hd : 0 ≤ d) {Q : Option ax_V → ax_S → Prop} (σ : ax_S)  (k1 : ax_Ct shM d mX12_look [ax_r 0] (fun r u => ∃ x : Int32, r = some (ax_i x) ∧ ax_W shM (d + 1) mX12_atom Q 4 [some (ax_r 0), none] (ax_i x :: []) u) σ) : ax_W shM (d + 1) mX12_atom Q 0 [some (ax_r 0), none] [] σ := by
  refine ax_aload_n (q := 1) (i := 0) dX12_atom_0 rfl rfl rfl ?_
  exact ax_callVci (q := 4) (As := []) (st := []) dX12_atom_1 rfl lk_X12_137 shM_0 rfl rfl rfl rfl (Nat.le_of_ble_eq_true rfl) k1
set_option maxRecDepth 20000 in
theorem s_X12_atom_4 {d : Nat} (hd : 1 ≤ d) {Q : Option ax_V → ax_S → Prop} (σ : ax_S) (rr : Int32) (k1 : (¬ ((¬ (rr < (48 : Int32))) ∧ (¬ ((57 : Int32) < rr)))) → ((v_X12_letterOf rr) = (-1 : Int32)) → (¬ rr = (91 : Int32)) → Q none (ax_ui σ 0 4 (if (¬ (σ.1 0 4) = (-1 : Int32)) then (σ.1 0 4) else (σ.1 0 3)))) (k2 : (¬ ((¬ (rr < (48 : Int32))) ∧ (¬ ((57 : Int32) < rr)))) → ((v_X12_letterOf rr) = (-1 : Int32)) → (¬ (¬ rr = (91 : Int32))) → ax_Ct shM d mX12_opens [ax_r 0] (fun r u => r = none ∧ ax_W shM (d + 1) mX12_atom Q 64 [some (ax_r 0), none] [] u) σ) (h3 : (¬ ((¬ (rr < (48 : Int32))) ∧ (¬ ((57 : Int32) < rr)))) → (¬ ((v_X12_letterOf rr) = (-1 : Int32))) → vp_in (σ.1 0 14) 5) (h4 : (¬ ((¬ (rr < (48 : Int32))) ∧ (¬ ((57 : Int32) < rr)))) → (¬ ((v_X12_letterOf rr) = (-1 : Int32))) → vp_in (((520 : Int32) * (σ.1 0 14)) + (σ.1 4 (Int32.toNatClampNeg (σ.1 0 14)))) 2600) (k5 : (¬ ((¬ (rr < (48 : Int32))) ∧ (¬ ((57 : Int32) < rr)))) → (¬ ((v_X12_letterOf rr) = (-1 : Int32))) → Q none (ax_ui (ax_ui (ax_ui (ax_ui σ 0 3 ((σ.1 0 3) + (1 : Int32))) 2 (Int32.toNatClampNeg (((520 : Int32) * (σ.1 0 14)) + (σ.1 4 (Int32.toNatClampNeg (σ.1 0 14))))) (1 : Int32)) 3 (Int32.toNatClampNeg (((520 : Int32) * (σ.1 0 14)) + (σ.1 4 (Int32.toNatClampNeg (σ.1 0 14))))) (v_X12_letterOf rr)) 4 (Int32.toNatClampNeg (σ.1 0 14)) ((σ.1 4 (Int32.toNatClampNeg (σ.1 0 14))) + (1 : Int32)))) (k6 : ((¬ (rr < (48 : Int32))) ∧ (¬ ((57 : Int32) < rr))) → ax_Ct shM d mX12_plainNumber [ax_r 0] (fun r u => ∃ x : Int32, r = some (ax_i x) ∧ ax_W shM (d + 1) mX12_atom Q 18 [none, none] (ax_i x :: [ax_i (0 : Int32), ax_r 0]) u) σ) : ax_W shM (d + 1) mX12_atom Q 4 [some (ax_r 0), none] [ax_i rr] σ := by
  refine ax_istore_n (q := 5) (i := 1) (lv2 := [some (ax_r 0), some (ax_i rr)]) dX12_atom_4 rfl rfl (by decide) rfl rfl ?_
  refine ax_iload_n (q := 6) (i := 1) dX12_atom_5 rfl rfl rfl ?_
  refine ax_callSfi (q := 9) (As := [ax_i rr]) (st := []) (x := (if ((¬ (rr < (48 : Int32))) ∧ (¬ ((57 : Int32) < rr))) then (1 : Int32) else 0)) (σ2 := σ) dX12_atom_6 rfl lk_X12_140 rfl rfl (Nat.le_of_ble_eq_true rfl) (f_X12_isDigit (sh := shM) σ rr  (d := d) (by omega)) ?_
  refine ax_if_eqB (tgt := 24) (q := 12) dX12_atom_9 (by decide) rfl (fun c1 => ?_) (fun c1 => ?_)
  · refine ax_iload_n (q := 25) (i := 1) dX12_atom_24 rfl rfl rfl ?_
    refine ax_callSfi (q := 28) (As := [ax_i rr]) (st := []) (x := (v_X12_letterOf rr)) (σ2 := σ) dX12_atom_25 rfl lk_X12_151 rfl rfl (Nat.le_of_ble_eq_true rfl) (f_X12_letterOf (sh := shM) σ rr  (d := d) (by omega)) ?_
    refine ax_iconst (q := 29) dX12_atom_28 rfl ki_m1 ?_
    refine ax_icmp_eq (tgt := 54) (q := 32) dX12_atom_29 (by decide) rfl (fun c2 => ?_) (fun c2 => ?_)
    · refine ax_iload_n (q := 55) (i := 1) dX12_atom_54 rfl rfl rfl ?_
      refine ax_bipush (q := 57) dX12_atom_55 rfl kb_91 ?_
      refine ax_icmp_ne (tgt := 85) (q := 60) dX12_atom_57 (by decide) rfl (fun c3 => ?_) (fun c3 => ?_)
      · refine ax_aload_n (q := 86) (i := 0) dX12_atom_85 rfl rfl rfl ?_
        refine ax_callVfv (q := 89) (As := []) (st := []) (σ2 := (ax_ui σ 0 4 (if (¬ (σ.1 0 4) = (-1 : Int32)) then (σ.1 0 4) else (σ.1 0 3)))) dX12_atom_86 rfl lk_X12_134 shM_0 rfl rfl rfl rfl (Nat.le_of_ble_eq_true rfl) (f_X12_bad σ   (d := d) (by omega)) ?_
        exact ax_vret dX12_atom_89 rfl (k1 c1 c2 c3)
      · refine ax_aload_n (q := 61) (i := 0) dX12_atom_60 rfl rfl rfl ?_
        refine ax_fg (lv2 := [some (ax_r 0), none]) ⟨rfl, trivial⟩ ?_
        exact ax_callVcv (q := 64) (As := []) (st := []) dX12_atom_61 rfl lk_X12_155 shM_0 rfl rfl rfl rfl (Nat.le_of_ble_eq_true rfl) (k2 c1 c2 c3)
    · refine ax_aload_n (q := 33) (i := 0) dX12_atom_32 rfl rfl rfl ?_
      refine ax_dupr (q := 34) dX12_atom_33 rfl ?_
      refine ax_get (q := 37) (k := 0) (j := 3) (v := ax_i (σ.1 0 3)) dX12_atom_34 rfl shM_0 rfl rfl rfl (by decide) fl_X12_118 ?_
      refine ax_iconst (q := 38) dX12_atom_37 rfl ki_1 ?_
      refine ax_iadd (q := 39) dX12_atom_38 rfl ?_
      refine ax_puti (q := 42) (k := 0) (j := 3) dX12_atom_39 rfl shM_0 rfl rfl (by decide) fl_X12_118 rfl rfl rfl rfl ?_
      refine ax_aload_n (q := 43) (i := 0) dX12_atom_42 rfl rfl rfl ?_
      refine ax_iconst (q := 44) dX12_atom_43 rfl ki_1 ?_
      refine ax_iload_n (q := 45) (i := 1) dX12_atom_44 rfl rfl rfl ?_
      refine ax_callSfi (q := 48) (As := [ax_i rr]) (st := [ax_i (1 : Int32), ax_r 0]) (x := (v_X12_letterOf rr)) (σ2 := (ax_ui σ 0 3 ((σ.1 0 3) + (1 : Int32)))) dX12_atom_45 rfl lk_X12_151 rfl rfl (Nat.le_of_ble_eq_true rfl) (f_X12_letterOf (sh := shM) (ax_ui σ 0 3 ((σ.1 0 3) + (1 : Int32))) rr  (d := d) (by omega)) ?_
      refine ax_callVfv (q := 51) (As := [ax_i (1 : Int32), ax_i (v_X12_letterOf rr)]) (st := []) (σ2 := (ax_ui (ax_ui (ax_ui (ax_ui σ 0 3 ((σ.1 0 3) + (1 : Int32))) 2 (Int32.toNatClampNeg (((520 : Int32) * (σ.1 0 14)) + (σ.1 4 (Int32.toNatClampNeg (σ.1 0 14))))) (1 : Int32)) 3 (Int32.toNatClampNeg (((520 : Int32) * (σ.1 0 14)) + (σ.1 4 (Int32.toNatClampNeg (σ.1 0 14))))) (v_X12_letterOf rr)) 4 (Int32.toNatClampNeg (σ.1 0 14)) ((σ.1 4 (Int32.toNatClampNeg (σ.1 0 14))) + (1 : Int32)))) dX12_atom_48 rfl lk_X12_147 shM_0 rfl rfl rfl rfl (Nat.le_of_ble_eq_true rfl) (f_X12_put (ax_ui σ 0 3 ((σ.1 0 3) + (1 : Int32))) (1 : Int32) (v_X12_letterOf rr) (h3 c1 c2) (h4 c1 c2) (d := d) (by omega)) ?_
      refine ax_goto (tgt := 89) dX12_atom_51 (by decide) ?_
      exact ax_vret dX12_atom_89 rfl (k5 c1 c2)
  · refine ax_aload_n (q := 13) (i := 0) dX12_atom_12 rfl rfl rfl ?_
    refine ax_iconst (q := 14) dX12_atom_13 rfl ki_0 ?_
    refine ax_aload_n (q := 15) (i := 0) dX12_atom_14 rfl rfl rfl ?_
    refine ax_fg (lv2 := [none, none]) trivial ?_
    exact ax_callVci (q := 18) (As := []) (st := [ax_i (0 : Int32), ax_r 0]) dX12_atom_15 rfl lk_X12_144 shM_0 rfl rfl rfl rfl (Nat.le_of_ble_eq_true rfl) (k6 c1)
set_option maxRecDepth 20000 in
theorem s_X12_atom_18 {d : Nat} (hd : 1 ≤ d) {Q : Option ax_V → ax_S → Prop} (σ : ax_S) (rr : Int32) (y0 : Int32) (h1 : vp_in (σ.1 0 14) 5) (h2 : vp_in (((520 : Int32) * (σ.1 0 14)) + (σ.1 4 (Int32.toNatClampNeg (σ.1 0 14)))) 2600) (k3 : Q none (ax_ui (ax_ui (ax_ui σ 2 (Int32.toNatClampNeg (((520 : Int32) * (σ.1 0 14)) + (σ.1 4 (Int32.toNatClampNeg (σ.1 0 14))))) y0) 3 (Int32.toNatClampNeg (((520 : Int32) * (σ.1 0 14)) + (σ.1 4 (Int32.toNatClampNeg (σ.1 0 14))))) rr) 4 (Int32.toNatClampNeg (σ.1 0 14)) ((σ.1 4 (Int32.toNatClampNeg (σ.1 0 14))) + (1 : Int32)))) : ax_W shM (d + 1) mX12_atom Q 18 [none, none] [ax_i rr, ax_i y0, ax_r 0] σ := by
  refine ax_callVfv (q := 21) (As := [ax_i y0, ax_i rr]) (st := []) (σ2 := (ax_ui (ax_ui (ax_ui σ 2 (Int32.toNatClampNeg (((520 : Int32) * (σ.1 0 14)) + (σ.1 4 (Int32.toNatClampNeg (σ.1 0 14))))) y0) 3 (Int32.toNatClampNeg (((520 : Int32) * (σ.1 0 14)) + (σ.1 4 (Int32.toNatClampNeg (σ.1 0 14))))) rr) 4 (Int32.toNatClampNeg (σ.1 0 14)) ((σ.1 4 (Int32.toNatClampNeg (σ.1 0 14))) + (1 : Int32)))) dX12_atom_18 rfl lk_X12_147 shM_0 rfl rfl rfl rfl (Nat.le_of_ble_eq_true rfl) (f_X12_put σ y0 rr h1 h2 (d := d) (by omega)) ?_
  refine ax_goto (tgt := 89) dX12_atom_21 (by decide) ?_
  exact ax_vret dX12_atom_89 rfl k3
set_option maxRecDepth 20000 in
theorem s_X12_atom_64 {d : Nat} (hd : 0 ≤ d) {Q : Option ax_V → ax_S → Prop} (σ : ax_S)  (k1 : (¬ (σ.1 0 4) = (-1 : Int32)) → Q none σ) (k2 : (¬ (¬ (σ.1 0 4) = (-1 : Int32))) → ax_Ct shM d mX12_sum [ax_r 0] (fun r u => r = none ∧ ax_W shM (d + 1) mX12_atom Q 76 [some (ax_r 0), none] [] u) σ) : ax_W shM (d + 1) mX12_atom Q 64 [some (ax_r 0), none] [] σ := by
  refine ax_aload_n (q := 65) (i := 0) dX12_atom_64 rfl rfl rfl ?_
  refine ax_get (q := 68) (k := 0) (j := 4) (v := ax_i (σ.1 0 4)) dX12_atom_65 rfl shM_0 rfl rfl rfl (by decide) fl_X12_125 ?_
  refine ax_iconst (q := 69) dX12_atom_68 rfl ki_m1 ?_
  refine ax_icmp_ne (tgt := 89) (q := 72) dX12_atom_69 (by decide) rfl (fun c1 => ?_) (fun c1 => ?_)
  · exact ax_vret dX12_atom_89 rfl (k1 c1)
  · refine ax_aload_n (q := 73) (i := 0) dX12_atom_72 rfl rfl rfl ?_
    exact ax_callVcv (q := 76) (As := []) (st := []) dX12_atom_73 rfl lk_X12_158 shM_0 rfl rfl rfl rfl (Nat.le_of_ble_eq_true rfl) (k2 c1)
set_option maxRecDepth 20000 in
theorem s_X12_atom_76 {d : Nat} (hd : 0 ≤ d) {Q : Option ax_V → ax_S → Prop} (σ : ax_S)  (k1 : ax_Ct shM d mX12_closes [ax_r 0, ax_i (93 : Int32)] (fun r u => r = none ∧ ax_W shM (d + 1) mX12_atom Q 82 [none, none] [] u) σ) : ax_W shM (d + 1) mX12_atom Q 76 [some (ax_r 0), none] [] σ := by
  refine ax_aload_n (q := 77) (i := 0) dX12_atom_76 rfl rfl rfl ?_
  refine ax_bipush (q := 79) dX12_atom_77 rfl kb_93 ?_
  refine ax_fg (lv2 := [none, none]) trivial ?_
  exact ax_callVcv (q := 82) (As := [ax_i (93 : Int32)]) (st := []) dX12_atom_79 rfl lk_X12_161 shM_0 rfl rfl rfl rfl (Nat.le_of_ble_eq_true rfl) k1
set_option maxRecDepth 20000 in
theorem s_X12_atom_82 {d : Nat} (hd : 0 ≤ d) {Q : Option ax_V → ax_S → Prop} (σ : ax_S)  (k1 : Q none σ) : ax_W shM (d + 1) mX12_atom Q 82 [none, none] [] σ := by
  refine ax_goto (tgt := 89) dX12_atom_82 (by decide) ?_
  exact ax_vret dX12_atom_89 rfl k1
set_option maxRecDepth 20000 in
theorem f_X12_isSign {sh : List ax_H} (σ : ax_S) (a0 : Int32)  {d : Nat} (hd : 1 ≤ d) : ax_Ct sh d mX12_isSign [ax_i a0] (fun r u => r = some (ax_i (if ((a0 = (61 : Int32)) ∨ ((a0 = (60 : Int32)) ∨ (¬ (¬ a0 = (62 : Int32))))) then (1 : Int32) else 0)) ∧ u = σ) σ := by
  obtain ⟨d, rfl⟩ : ∃ e, d = e + 1 := ⟨d - 1, by omega⟩
  refine ax_Ct.of (lv := [some (ax_i a0)]) (by decide +kernel) (fun ad => Nat.le_of_ble_eq_true rfl) (fun ad => rfl) ?_
  refine ax_iload_n (q := 1) (i := 0) dX12_isSign_0 rfl rfl rfl ?_
  refine ax_bipush (q := 3) dX12_isSign_1 rfl kb_61 ?_
  have K4 : ax_W sh (d + 1) mX12_isSign (fun r u => r = some (ax_i (if ((a0 = (61 : Int32)) ∨ ((a0 = (60 : Int32)) ∨ (¬ (¬ a0 = (62 : Int32))))) then (1 : Int32) else 0)) ∧ u = σ) 23 [some (ax_i a0)] [ax_i (if ((a0 = (61 : Int32)) ∨ ((a0 = (60 : Int32)) ∨ (¬ (¬ a0 = (62 : Int32))))) then (1 : Int32) else 0)] σ := by
    exact ax_iret dX12_isSign_23 rfl (ax_nb _) ⟨rfl, rfl⟩
  refine ax_icmp_eq (tgt := 18) (q := 6) dX12_isSign_3 (by decide) rfl (fun c1 => ?_) (fun c1 => ?_)
  · refine ax_iconst (q := 19) dX12_isSign_18 rfl ki_1 ?_
    refine ax_goto (tgt := 23) dX12_isSign_19 (by decide) ?_
    exact ax_cv (if_pos (Or.inl c1)) K4
  · refine ax_iload_n (q := 7) (i := 0) dX12_isSign_6 rfl rfl rfl ?_
    refine ax_bipush (q := 9) dX12_isSign_7 rfl kb_60 ?_
    refine ax_icmp_eq (tgt := 18) (q := 12) dX12_isSign_9 (by decide) rfl (fun c2 => ?_) (fun c2 => ?_)
    · refine ax_iconst (q := 19) dX12_isSign_18 rfl ki_1 ?_
      refine ax_goto (tgt := 23) dX12_isSign_19 (by decide) ?_
      exact ax_cv (if_pos (Or.inr (Or.inl c2))) K4
    · refine ax_iload_n (q := 13) (i := 0) dX12_isSign_12 rfl rfl rfl ?_
      refine ax_bipush (q := 15) dX12_isSign_13 rfl kb_62 ?_
      refine ax_icmp_ne (tgt := 22) (q := 18) dX12_isSign_15 (by decide) rfl (fun c3 => ?_) (fun c3 => ?_)
      · refine ax_iconst (q := 23) dX12_isSign_22 rfl ki_0 ?_
        exact ax_cv (if_neg (fun z => z.elim c1 (fun z => z.elim c2 (fun y => y c3)))) K4
      · refine ax_iconst (q := 19) dX12_isSign_18 rfl ki_1 ?_
        refine ax_goto (tgt := 23) dX12_isSign_19 (by decide) ?_
        exact ax_cv (if_pos (Or.inr (Or.inr c3))) K4
set_option maxRecDepth 20000 in
theorem s_X12_compare_0 {d : Nat} (hd : 1 ≤ d) {Q : Option ax_V → ax_S → Prop} (σ : ax_S)  (k1 : (¬ (σ.1 0 4) = (-1 : Int32)) → (((-1 : Int32) = (61 : Int32)) ∨ (((-1 : Int32) = (60 : Int32)) ∨ (¬ (¬ (-1 : Int32) = (62 : Int32))))) → ax_Ct shM d mX12_sum [ax_r 0] (fun r u => r = none ∧ ax_W shM (d + 1) mX12_compare Q 43 [some (ax_r 0), some (ax_i (-1 : Int32))] [] u) (ax_ui σ 0 3 ((σ.1 0 3) + (1 : Int32)))) (k2 : (¬ (σ.1 0 4) = (-1 : Int32)) → (¬ (((-1 : Int32) = (61 : Int32)) ∨ (((-1 : Int32) = (60 : Int32)) ∨ (¬ (¬ (-1 : Int32) = (62 : Int32)))))) → Q none (ax_ui σ 0 4 (if (¬ (σ.1 0 4) = (-1 : Int32)) then (σ.1 0 4) else (σ.1 0 3)))) (k3 : (¬ (¬ (σ.1 0 4) = (-1 : Int32))) → ax_Ct shM d mX12_look [ax_r 0] (fun r u => ∃ x : Int32, r = some (ax_i x) ∧ ax_W shM (d + 1) mX12_compare Q 12 [some (ax_r 0), none] (ax_i x :: []) u) σ) : ax_W shM (d + 1) mX12_compare Q 0 [some (ax_r 0), none] [] σ := by
  refine ax_aload_n (q := 1) (i := 0) dX12_compare_0 rfl rfl rfl ?_
  refine ax_get (q := 4) (k := 0) (j := 4) (v := ax_i (σ.1 0 4)) dX12_compare_1 rfl shM_0 rfl rfl rfl (by decide) fl_X12_125 ?_
  refine ax_iconst (q := 5) dX12_compare_4 rfl ki_m1 ?_
  refine ax_icmp_ne (tgt := 15) (q := 8) dX12_compare_5 (by decide) rfl (fun c1 => ?_) (fun c1 => ?_)
  · refine ax_iconst (q := 16) dX12_compare_15 rfl ki_m1 ?_
    refine ax_istore_n (q := 17) (i := 1) (lv2 := [some (ax_r 0), some (ax_i (-1 : Int32))]) dX12_compare_16 rfl rfl (by decide) rfl rfl ?_
    refine ax_iload_n (q := 18) (i := 1) dX12_compare_17 rfl rfl rfl ?_
    refine ax_callSfi (q := 21) (As := [ax_i (-1 : Int32)]) (st := []) (x := (if (((-1 : Int32) = (61 : Int32)) ∨ (((-1 : Int32) = (60 : Int32)) ∨ (¬ (¬ (-1 : Int32) = (62 : Int32))))) then (1 : Int32) else 0)) (σ2 := σ) dX12_compare_18 rfl lk_X12_171 rfl rfl (Nat.le_of_ble_eq_true rfl) (f_X12_isSign (sh := shM) σ (-1 : Int32)  (d := d) (by omega)) ?_
    refine ax_if_neB (tgt := 29) (q := 24) dX12_compare_21 (by decide) rfl (fun c2 => ?_) (fun c2 => ?_)
    · refine ax_aload_n (q := 30) (i := 0) dX12_compare_29 rfl rfl rfl ?_
      refine ax_dupr (q := 31) dX12_compare_30 rfl ?_
      refine ax_get (q := 34) (k := 0) (j := 3) (v := ax_i (σ.1 0 3)) dX12_compare_31 rfl shM_0 rfl rfl rfl (by decide) fl_X12_118 ?_
      refine ax_iconst (q := 35) dX12_compare_34 rfl ki_1 ?_
      refine ax_iadd (q := 36) dX12_compare_35 rfl ?_
      refine ax_puti (q := 39) (k := 0) (j := 3) dX12_compare_36 rfl shM_0 rfl rfl (by decide) fl_X12_118 rfl rfl rfl rfl ?_
      refine ax_aload_n (q := 40) (i := 0) dX12_compare_39 rfl rfl rfl ?_
      exact ax_callVcv (q := 43) (As := []) (st := []) dX12_compare_40 rfl lk_X12_158 shM_0 rfl rfl rfl rfl (Nat.le_of_ble_eq_true rfl) (k1 c1 c2)
    · refine ax_aload_n (q := 25) (i := 0) dX12_compare_24 rfl rfl rfl ?_
      refine ax_callVfv (q := 28) (As := []) (st := []) (σ2 := (ax_ui σ 0 4 (if (¬ (σ.1 0 4) = (-1 : Int32)) then (σ.1 0 4) else (σ.1 0 3)))) dX12_compare_25 rfl lk_X12_134 shM_0 rfl rfl rfl rfl (Nat.le_of_ble_eq_true rfl) (f_X12_bad σ   (d := d) (by omega)) ?_
      exact ax_vret dX12_compare_28 rfl (k2 c1 c2)
  · refine ax_aload_n (q := 9) (i := 0) dX12_compare_8 rfl rfl rfl ?_
    exact ax_callVci (q := 12) (As := []) (st := []) dX12_compare_9 rfl lk_X12_137 shM_0 rfl rfl rfl rfl (Nat.le_of_ble_eq_true rfl) (k3 c1)
set_option maxRecDepth 20000 in
theorem s_X12_compare_12 {d : Nat} (hd : 1 ≤ d) {Q : Option ax_V → ax_S → Prop} (σ : ax_S) (rr : Int32) (k1 : ((rr = (61 : Int32)) ∨ ((rr = (60 : Int32)) ∨ (¬ (¬ rr = (62 : Int32))))) → ax_Ct shM d mX12_sum [ax_r 0] (fun r u => r = none ∧ ax_W shM (d + 1) mX12_compare Q 43 [some (ax_r 0), some (ax_i rr)] [] u) (ax_ui σ 0 3 ((σ.1 0 3) + (1 : Int32)))) (k2 : (¬ ((rr = (61 : Int32)) ∨ ((rr = (60 : Int32)) ∨ (¬ (¬ rr = (62 : Int32)))))) → Q none (ax_ui σ 0 4 (if (¬ (σ.1 0 4) = (-1 : Int32)) then (σ.1 0 4) else (σ.1 0 3)))) : ax_W shM (d + 1) mX12_compare Q 12 [some (ax_r 0), none] [ax_i rr] σ := by
  refine ax_goto (tgt := 16) dX12_compare_12 (by decide) ?_
  refine ax_istore_n (q := 17) (i := 1) (lv2 := [some (ax_r 0), some (ax_i rr)]) dX12_compare_16 rfl rfl (by decide) rfl rfl ?_
  refine ax_iload_n (q := 18) (i := 1) dX12_compare_17 rfl rfl rfl ?_
  refine ax_callSfi (q := 21) (As := [ax_i rr]) (st := []) (x := (if ((rr = (61 : Int32)) ∨ ((rr = (60 : Int32)) ∨ (¬ (¬ rr = (62 : Int32))))) then (1 : Int32) else 0)) (σ2 := σ) dX12_compare_18 rfl lk_X12_171 rfl rfl (Nat.le_of_ble_eq_true rfl) (f_X12_isSign (sh := shM) σ rr  (d := d) (by omega)) ?_
  refine ax_if_neB (tgt := 29) (q := 24) dX12_compare_21 (by decide) rfl (fun c1 => ?_) (fun c1 => ?_)
  · refine ax_aload_n (q := 30) (i := 0) dX12_compare_29 rfl rfl rfl ?_
    refine ax_dupr (q := 31) dX12_compare_30 rfl ?_
    refine ax_get (q := 34) (k := 0) (j := 3) (v := ax_i (σ.1 0 3)) dX12_compare_31 rfl shM_0 rfl rfl rfl (by decide) fl_X12_118 ?_
    refine ax_iconst (q := 35) dX12_compare_34 rfl ki_1 ?_
    refine ax_iadd (q := 36) dX12_compare_35 rfl ?_
    refine ax_puti (q := 39) (k := 0) (j := 3) dX12_compare_36 rfl shM_0 rfl rfl (by decide) fl_X12_118 rfl rfl rfl rfl ?_
    refine ax_aload_n (q := 40) (i := 0) dX12_compare_39 rfl rfl rfl ?_
    exact ax_callVcv (q := 43) (As := []) (st := []) dX12_compare_40 rfl lk_X12_158 shM_0 rfl rfl rfl rfl (Nat.le_of_ble_eq_true rfl) (k1 c1)
  · refine ax_aload_n (q := 25) (i := 0) dX12_compare_24 rfl rfl rfl ?_
    refine ax_callVfv (q := 28) (As := []) (st := []) (σ2 := (ax_ui σ 0 4 (if (¬ (σ.1 0 4) = (-1 : Int32)) then (σ.1 0 4) else (σ.1 0 3)))) dX12_compare_25 rfl lk_X12_134 shM_0 rfl rfl rfl rfl (Nat.le_of_ble_eq_true rfl) (f_X12_bad σ   (d := d) (by omega)) ?_
    exact ax_vret dX12_compare_28 rfl (k2 c1)
set_option maxRecDepth 20000 in
theorem s_X12_compare_43 {d : Nat} (hd : 1 ≤ d) {Q : Option ax_V → ax_S → Prop} (σ : ax_S) (x1 : Int32) (h1 : vp_in (σ.1 0 14) 5) (h2 : vp_in (((520 : Int32) * (σ.1 0 14)) + (σ.1 4 (Int32.toNatClampNeg (σ.1 0 14)))) 2600) (k3 : Q none (ax_ui (ax_ui (ax_ui σ 2 (Int32.toNatClampNeg (((520 : Int32) * (σ.1 0 14)) + (σ.1 4 (Int32.toNatClampNeg (σ.1 0 14))))) (if (¬ x1 = (61 : Int32)) then (if (¬ x1 = (60 : Int32)) then (8 : Int32) else (7 : Int32)) else (6 : Int32))) 3 (Int32.toNatClampNeg (((520 : Int32) * (σ.1 0 14)) + (σ.1 4 (Int32.toNatClampNeg (σ.1 0 14))))) (0 : Int32)) 4 (Int32.toNatClampNeg (σ.1 0 14)) ((σ.1 4 (Int32.toNatClampNeg (σ.1 0 14))) + (1 : Int32)))) : ax_W shM (d + 1) mX12_compare Q 43 [some (ax_r 0), some (ax_i x1)] [] σ := by
  refine ax_aload_n (q := 44) (i := 0) dX12_compare_43 rfl rfl rfl ?_
  refine ax_iload_n (q := 45) (i := 1) dX12_compare_44 rfl rfl rfl ?_
  refine ax_bipush (q := 47) dX12_compare_45 rfl kb_61 ?_
  have K3 : ax_W shM (d + 1) mX12_compare Q 68 [some (ax_r 0), some (ax_i x1)] [ax_i (if (¬ x1 = (61 : Int32)) then (if (¬ x1 = (60 : Int32)) then (8 : Int32) else (7 : Int32)) else (6 : Int32)), ax_r 0] σ := by
    refine ax_iconst (q := 69) dX12_compare_68 rfl ki_0 ?_
    refine ax_callVfv (q := 72) (As := [ax_i (if (¬ x1 = (61 : Int32)) then (if (¬ x1 = (60 : Int32)) then (8 : Int32) else (7 : Int32)) else (6 : Int32)), ax_i (0 : Int32)]) (st := []) (σ2 := (ax_ui (ax_ui (ax_ui σ 2 (Int32.toNatClampNeg (((520 : Int32) * (σ.1 0 14)) + (σ.1 4 (Int32.toNatClampNeg (σ.1 0 14))))) (if (¬ x1 = (61 : Int32)) then (if (¬ x1 = (60 : Int32)) then (8 : Int32) else (7 : Int32)) else (6 : Int32))) 3 (Int32.toNatClampNeg (((520 : Int32) * (σ.1 0 14)) + (σ.1 4 (Int32.toNatClampNeg (σ.1 0 14))))) (0 : Int32)) 4 (Int32.toNatClampNeg (σ.1 0 14)) ((σ.1 4 (Int32.toNatClampNeg (σ.1 0 14))) + (1 : Int32)))) dX12_compare_69 rfl lk_X12_147 shM_0 rfl rfl rfl rfl (Nat.le_of_ble_eq_true rfl) (f_X12_put σ (if (¬ x1 = (61 : Int32)) then (if (¬ x1 = (60 : Int32)) then (8 : Int32) else (7 : Int32)) else (6 : Int32)) (0 : Int32) h1 h2 (d := d) (by omega)) ?_
    exact ax_vret dX12_compare_72 rfl k3
  refine ax_icmp_ne (tgt := 55) (q := 50) dX12_compare_47 (by decide) rfl (fun c1 => ?_) (fun c1 => ?_)
  · refine ax_iload_n (q := 56) (i := 1) dX12_compare_55 rfl rfl rfl ?_
    refine ax_bipush (q := 58) dX12_compare_56 rfl kb_60 ?_
    refine ax_icmp_ne (tgt := 66) (q := 61) dX12_compare_58 (by decide) rfl (fun c2 => ?_) (fun c2 => ?_)
    · refine ax_bipush (q := 68) dX12_compare_66 rfl kb_8 ?_
      exact ax_cv ((if_pos c1).trans (if_pos c2)) K3
    · refine ax_bipush (q := 63) dX12_compare_61 rfl kb_7 ?_
      refine ax_goto (tgt := 68) dX12_compare_63 (by decide) ?_
      exact ax_cv ((if_pos c1).trans (if_neg c2)) K3
  · refine ax_bipush (q := 52) dX12_compare_50 rfl kb_6 ?_
    refine ax_goto (tgt := 68) dX12_compare_52 (by decide) ?_
    exact ax_cv (if_neg c1) K3
set_option maxRecDepth 20000 in
theorem s_X12_goOnAnd_0 {d : Nat} (hd : 0 ≤ d) {Q : Option ax_V → ax_S → Prop} (σ : ax_S)  (k1 : (¬ (σ.1 0 4) = (-1 : Int32)) → Q none σ) (k2 : (¬ (¬ (σ.1 0 4) = (-1 : Int32))) → ax_Ct shM d mX12_look [ax_r 0] (fun r u => ∃ x : Int32, r = some (ax_i x) ∧ ax_W shM (d + 1) mX12_goOnAnd Q 12 [some (ax_r 0)] (ax_i x :: []) u) σ) : ax_W shM (d + 1) mX12_goOnAnd Q 0 [some (ax_r 0)] [] σ := by
  refine ax_aload_n (q := 1) (i := 0) dX12_goOnAnd_0 rfl rfl rfl ?_
  refine ax_get (q := 4) (k := 0) (j := 4) (v := ax_i (σ.1 0 4)) dX12_goOnAnd_1 rfl shM_0 rfl rfl rfl (by decide) fl_X12_125 ?_
  refine ax_iconst (q := 5) dX12_goOnAnd_4 rfl ki_m1 ?_
  refine ax_icmp_ne (tgt := 41) (q := 8) dX12_goOnAnd_5 (by decide) rfl (fun c1 => ?_) (fun c1 => ?_)
  · exact ax_vret dX12_goOnAnd_41 rfl (k1 c1)
  · refine ax_aload_n (q := 9) (i := 0) dX12_goOnAnd_8 rfl rfl rfl ?_
    exact ax_callVci (q := 12) (As := []) (st := []) dX12_goOnAnd_9 rfl lk_X12_137 shM_0 rfl rfl rfl rfl (Nat.le_of_ble_eq_true rfl) (k2 c1)
set_option maxRecDepth 20000 in
theorem s_X12_goOnAnd_12 {d : Nat} (hd : 0 ≤ d) {Q : Option ax_V → ax_S → Prop} (σ : ax_S) (rr : Int32) (k1 : (¬ rr = (38 : Int32)) → Q none σ) (k2 : (¬ (¬ rr = (38 : Int32))) → ax_Ct shM d mX12_unit [ax_r 0] (fun r u => r = none ∧ ax_W shM (d + 1) mX12_goOnAnd Q 31 [some (ax_r 0)] [] u) (ax_ui σ 0 3 ((σ.1 0 3) + (1 : Int32)))) : ax_W shM (d + 1) mX12_goOnAnd Q 12 [some (ax_r 0)] [ax_i rr] σ := by
  refine ax_bipush (q := 14) dX12_goOnAnd_12 rfl kb_38 ?_
  refine ax_icmp_ne (tgt := 41) (q := 17) dX12_goOnAnd_14 (by decide) rfl (fun c1 => ?_) (fun c1 => ?_)
  · exact ax_vret dX12_goOnAnd_41 rfl (k1 c1)
  · refine ax_aload_n (q := 18) (i := 0) dX12_goOnAnd_17 rfl rfl rfl ?_
    refine ax_dupr (q := 19) dX12_goOnAnd_18 rfl ?_
    refine ax_get (q := 22) (k := 0) (j := 3) (v := ax_i (σ.1 0 3)) dX12_goOnAnd_19 rfl shM_0 rfl rfl rfl (by decide) fl_X12_118 ?_
    refine ax_iconst (q := 23) dX12_goOnAnd_22 rfl ki_1 ?_
    refine ax_iadd (q := 24) dX12_goOnAnd_23 rfl ?_
    refine ax_puti (q := 27) (k := 0) (j := 3) dX12_goOnAnd_24 rfl shM_0 rfl rfl (by decide) fl_X12_118 rfl rfl rfl rfl ?_
    refine ax_aload_n (q := 28) (i := 0) dX12_goOnAnd_27 rfl rfl rfl ?_
    exact ax_callVcv (q := 31) (As := []) (st := []) dX12_goOnAnd_28 rfl lk_X12_174 shM_0 rfl rfl rfl rfl (Nat.le_of_ble_eq_true rfl) (k2 c1)
set_option maxRecDepth 20000 in
theorem s_X12_goOnAnd_31 {d : Nat} (hd : 1 ≤ d) {Q : Option ax_V → ax_S → Prop} (σ : ax_S)  (h1 : vp_in (σ.1 0 14) 5) (h2 : vp_in (((520 : Int32) * (σ.1 0 14)) + (σ.1 4 (Int32.toNatClampNeg (σ.1 0 14)))) 2600) (k3 : ax_W shM (d + 1) mX12_goOnAnd Q 0 [some (ax_r 0)] [] (ax_ui (ax_ui (ax_ui σ 2 (Int32.toNatClampNeg (((520 : Int32) * (σ.1 0 14)) + (σ.1 4 (Int32.toNatClampNeg (σ.1 0 14))))) (10 : Int32)) 3 (Int32.toNatClampNeg (((520 : Int32) * (σ.1 0 14)) + (σ.1 4 (Int32.toNatClampNeg (σ.1 0 14))))) (0 : Int32)) 4 (Int32.toNatClampNeg (σ.1 0 14)) ((σ.1 4 (Int32.toNatClampNeg (σ.1 0 14))) + (1 : Int32)))) : ax_W shM (d + 1) mX12_goOnAnd Q 31 [some (ax_r 0)] [] σ := by
  refine ax_aload_n (q := 32) (i := 0) dX12_goOnAnd_31 rfl rfl rfl ?_
  refine ax_bipush (q := 34) dX12_goOnAnd_32 rfl kb_10 ?_
  refine ax_iconst (q := 35) dX12_goOnAnd_34 rfl ki_0 ?_
  refine ax_callVfv (q := 38) (As := [ax_i (10 : Int32), ax_i (0 : Int32)]) (st := []) (σ2 := (ax_ui (ax_ui (ax_ui σ 2 (Int32.toNatClampNeg (((520 : Int32) * (σ.1 0 14)) + (σ.1 4 (Int32.toNatClampNeg (σ.1 0 14))))) (10 : Int32)) 3 (Int32.toNatClampNeg (((520 : Int32) * (σ.1 0 14)) + (σ.1 4 (Int32.toNatClampNeg (σ.1 0 14))))) (0 : Int32)) 4 (Int32.toNatClampNeg (σ.1 0 14)) ((σ.1 4 (Int32.toNatClampNeg (σ.1 0 14))) + (1 : Int32)))) dX12_goOnAnd_35 rfl lk_X12_147 shM_0 rfl rfl rfl rfl (Nat.le_of_ble_eq_true rfl) (f_X12_put σ (10 : Int32) (0 : Int32) h1 h2 (d := d) (by omega)) ?_
  refine ax_goto (tgt := 0) dX12_goOnAnd_38 (by decide) ?_
  exact k3
set_option maxRecDepth 20000 in
theorem s_X12_goOnOr_0 {d : Nat} (hd : 0 ≤ d) {Q : Option ax_V → ax_S → Prop} (σ : ax_S)  (k1 : (¬ (σ.1 0 4) = (-1 : Int32)) → Q none σ) (k2 : (¬ (¬ (σ.1 0 4) = (-1 : Int32))) → ax_Ct shM d mX12_look [ax_r 0] (fun r u => ∃ x : Int32, r = some (ax_i x) ∧ ax_W shM (d + 1) mX12_goOnOr Q 12 [some (ax_r 0)] (ax_i x :: []) u) σ) : ax_W shM (d + 1) mX12_goOnOr Q 0 [some (ax_r 0)] [] σ := by
  refine ax_aload_n (q := 1) (i := 0) dX12_goOnOr_0 rfl rfl rfl ?_
  refine ax_get (q := 4) (k := 0) (j := 4) (v := ax_i (σ.1 0 4)) dX12_goOnOr_1 rfl shM_0 rfl rfl rfl (by decide) fl_X12_125 ?_
  refine ax_iconst (q := 5) dX12_goOnOr_4 rfl ki_m1 ?_
  refine ax_icmp_ne (tgt := 45) (q := 8) dX12_goOnOr_5 (by decide) rfl (fun c1 => ?_) (fun c1 => ?_)
  · exact ax_vret dX12_goOnOr_45 rfl (k1 c1)
  · refine ax_aload_n (q := 9) (i := 0) dX12_goOnOr_8 rfl rfl rfl ?_
    exact ax_callVci (q := 12) (As := []) (st := []) dX12_goOnOr_9 rfl lk_X12_137 shM_0 rfl rfl rfl rfl (Nat.le_of_ble_eq_true rfl) (k2 c1)
set_option maxRecDepth 20000 in
theorem s_X12_goOnOr_12 {d : Nat} (hd : 0 ≤ d) {Q : Option ax_V → ax_S → Prop} (σ : ax_S) (rr : Int32) (k1 : (¬ rr = (124 : Int32)) → Q none σ) (k2 : (¬ (¬ rr = (124 : Int32))) → ax_Ct shM d mX12_unit [ax_r 0] (fun r u => r = none ∧ ax_W shM (d + 1) mX12_goOnOr Q 31 [some (ax_r 0)] [] u) (ax_ui σ 0 3 ((σ.1 0 3) + (1 : Int32)))) : ax_W shM (d + 1) mX12_goOnOr Q 12 [some (ax_r 0)] [ax_i rr] σ := by
  refine ax_bipush (q := 14) dX12_goOnOr_12 rfl kb_124 ?_
  refine ax_icmp_ne (tgt := 45) (q := 17) dX12_goOnOr_14 (by decide) rfl (fun c1 => ?_) (fun c1 => ?_)
  · exact ax_vret dX12_goOnOr_45 rfl (k1 c1)
  · refine ax_aload_n (q := 18) (i := 0) dX12_goOnOr_17 rfl rfl rfl ?_
    refine ax_dupr (q := 19) dX12_goOnOr_18 rfl ?_
    refine ax_get (q := 22) (k := 0) (j := 3) (v := ax_i (σ.1 0 3)) dX12_goOnOr_19 rfl shM_0 rfl rfl rfl (by decide) fl_X12_118 ?_
    refine ax_iconst (q := 23) dX12_goOnOr_22 rfl ki_1 ?_
    refine ax_iadd (q := 24) dX12_goOnOr_23 rfl ?_
    refine ax_puti (q := 27) (k := 0) (j := 3) dX12_goOnOr_24 rfl shM_0 rfl rfl (by decide) fl_X12_118 rfl rfl rfl rfl ?_
    refine ax_aload_n (q := 28) (i := 0) dX12_goOnOr_27 rfl rfl rfl ?_
    exact ax_callVcv (q := 31) (As := []) (st := []) dX12_goOnOr_28 rfl lk_X12_174 shM_0 rfl rfl rfl rfl (Nat.le_of_ble_eq_true rfl) (k2 c1)
set_option maxRecDepth 20000 in
theorem s_X12_goOnOr_31 {d : Nat} (hd : 0 ≤ d) {Q : Option ax_V → ax_S → Prop} (σ : ax_S)  (k1 : ax_Ct shM d mX12_goOnAnd [ax_r 0] (fun r u => r = none ∧ ax_W shM (d + 1) mX12_goOnOr Q 35 [some (ax_r 0)] [] u) σ) : ax_W shM (d + 1) mX12_goOnOr Q 31 [some (ax_r 0)] [] σ := by
  refine ax_aload_n (q := 32) (i := 0) dX12_goOnOr_31 rfl rfl rfl ?_
  exact ax_callVcv (q := 35) (As := []) (st := []) dX12_goOnOr_32 rfl lk_X12_183 shM_0 rfl rfl rfl rfl (Nat.le_of_ble_eq_true rfl) k1
set_option maxRecDepth 20000 in
theorem s_X12_goOnOr_35 {d : Nat} (hd : 1 ≤ d) {Q : Option ax_V → ax_S → Prop} (σ : ax_S)  (h1 : vp_in (σ.1 0 14) 5) (h2 : vp_in (((520 : Int32) * (σ.1 0 14)) + (σ.1 4 (Int32.toNatClampNeg (σ.1 0 14)))) 2600) (k3 : ax_W shM (d + 1) mX12_goOnOr Q 0 [some (ax_r 0)] [] (ax_ui (ax_ui (ax_ui σ 2 (Int32.toNatClampNeg (((520 : Int32) * (σ.1 0 14)) + (σ.1 4 (Int32.toNatClampNeg (σ.1 0 14))))) (11 : Int32)) 3 (Int32.toNatClampNeg (((520 : Int32) * (σ.1 0 14)) + (σ.1 4 (Int32.toNatClampNeg (σ.1 0 14))))) (0 : Int32)) 4 (Int32.toNatClampNeg (σ.1 0 14)) ((σ.1 4 (Int32.toNatClampNeg (σ.1 0 14))) + (1 : Int32)))) : ax_W shM (d + 1) mX12_goOnOr Q 35 [some (ax_r 0)] [] σ := by
  refine ax_aload_n (q := 36) (i := 0) dX12_goOnOr_35 rfl rfl rfl ?_
  refine ax_bipush (q := 38) dX12_goOnOr_36 rfl kb_11 ?_
  refine ax_iconst (q := 39) dX12_goOnOr_38 rfl ki_0 ?_
  refine ax_callVfv (q := 42) (As := [ax_i (11 : Int32), ax_i (0 : Int32)]) (st := []) (σ2 := (ax_ui (ax_ui (ax_ui σ 2 (Int32.toNatClampNeg (((520 : Int32) * (σ.1 0 14)) + (σ.1 4 (Int32.toNatClampNeg (σ.1 0 14))))) (11 : Int32)) 3 (Int32.toNatClampNeg (((520 : Int32) * (σ.1 0 14)) + (σ.1 4 (Int32.toNatClampNeg (σ.1 0 14))))) (0 : Int32)) 4 (Int32.toNatClampNeg (σ.1 0 14)) ((σ.1 4 (Int32.toNatClampNeg (σ.1 0 14))) + (1 : Int32)))) dX12_goOnOr_39 rfl lk_X12_147 shM_0 rfl rfl rfl rfl (Nat.le_of_ble_eq_true rfl) (f_X12_put σ (11 : Int32) (0 : Int32) h1 h2 (d := d) (by omega)) ?_
  refine ax_goto (tgt := 0) dX12_goOnOr_42 (by decide) ?_
  exact k3
set_option maxRecDepth 20000 in
theorem s_X12_condition_0 {d : Nat} (hd : 0 ≤ d) {Q : Option ax_V → ax_S → Prop} (σ : ax_S)  (k1 : ax_Ct shM d mX12_unit [ax_r 0] (fun r u => r = none ∧ ax_W shM (d + 1) mX12_condition Q 4 [some (ax_r 0)] [] u) σ) : ax_W shM (d + 1) mX12_condition Q 0 [some (ax_r 0)] [] σ := by
  refine ax_aload_n (q := 1) (i := 0) dX12_condition_0 rfl rfl rfl ?_
  exact ax_callVcv (q := 4) (As := []) (st := []) dX12_condition_1 rfl lk_X12_174 shM_0 rfl rfl rfl rfl (Nat.le_of_ble_eq_true rfl) k1
set_option maxRecDepth 20000 in
theorem s_X12_condition_4 {d : Nat} (hd : 0 ≤ d) {Q : Option ax_V → ax_S → Prop} (σ : ax_S)  (k1 : ax_Ct shM d mX12_goOnAnd [ax_r 0] (fun r u => r = none ∧ ax_W shM (d + 1) mX12_condition Q 8 [some (ax_r 0)] [] u) σ) : ax_W shM (d + 1) mX12_condition Q 4 [some (ax_r 0)] [] σ := by
  refine ax_aload_n (q := 5) (i := 0) dX12_condition_4 rfl rfl rfl ?_
  exact ax_callVcv (q := 8) (As := []) (st := []) dX12_condition_5 rfl lk_X12_183 shM_0 rfl rfl rfl rfl (Nat.le_of_ble_eq_true rfl) k1
set_option maxRecDepth 20000 in
theorem s_X12_condition_8 {d : Nat} (hd : 0 ≤ d) {Q : Option ax_V → ax_S → Prop} (σ : ax_S)  (k1 : ax_Ct shM d mX12_goOnOr [ax_r 0] (fun r u => r = none ∧ ax_W shM (d + 1) mX12_condition Q 12 [none] [] u) σ) : ax_W shM (d + 1) mX12_condition Q 8 [some (ax_r 0)] [] σ := by
  refine ax_aload_n (q := 9) (i := 0) dX12_condition_8 rfl rfl rfl ?_
  refine ax_fg (lv2 := [none]) trivial ?_
  exact ax_callVcv (q := 12) (As := []) (st := []) dX12_condition_9 rfl lk_X12_186 shM_0 rfl rfl rfl rfl (Nat.le_of_ble_eq_true rfl) k1
set_option maxRecDepth 20000 in
theorem s_X12_condition_12 {d : Nat} (hd : 0 ≤ d) {Q : Option ax_V → ax_S → Prop} (σ : ax_S)  (k1 : Q none σ) : ax_W shM (d + 1) mX12_condition Q 12 [none] [] σ := by
  exact ax_vret dX12_condition_12 rfl k1
set_option maxRecDepth 20000 in
theorem s_X12_unit_0 {d : Nat} (hd : 0 ≤ d) {Q : Option ax_V → ax_S → Prop} (σ : ax_S)  (k1 : ax_Ct shM d mX12_look [ax_r 0] (fun r u => ∃ x : Int32, r = some (ax_i x) ∧ ax_W shM (d + 1) mX12_unit Q 4 [some (ax_r 0), none] (ax_i x :: []) u) σ) : ax_W shM (d + 1) mX12_unit Q 0 [some (ax_r 0), none] [] σ := by
  refine ax_aload_n (q := 1) (i := 0) dX12_unit_0 rfl rfl rfl ?_
  exact ax_callVci (q := 4) (As := []) (st := []) dX12_unit_1 rfl lk_X12_137 shM_0 rfl rfl rfl rfl (Nat.le_of_ble_eq_true rfl) k1
set_option maxRecDepth 20000 in
theorem s_X12_unit_4 {d : Nat} (hd : 0 ≤ d) {Q : Option ax_V → ax_S → Prop} (σ : ax_S) (rr : Int32) (k1 : (¬ rr = (33 : Int32)) → (¬ rr = (40 : Int32)) → ax_Ct shM d mX12_sum [ax_r 0] (fun r u => r = none ∧ ax_W shM (d + 1) mX12_unit Q 82 [some (ax_r 0), none] [] u) σ) (k2 : (¬ rr = (33 : Int32)) → (¬ (¬ rr = (40 : Int32))) → ax_Ct shM d mX12_opens [ax_r 0] (fun r u => r = none ∧ ax_W shM (d + 1) mX12_unit Q 57 [some (ax_r 0), none] [] u) σ) (k3 : (¬ (¬ rr = (33 : Int32))) → ax_Ct shM d mX12_opens [ax_r 0] (fun r u => r = none ∧ ax_W shM (d + 1) mX12_unit Q 15 [some (ax_r 0), none] [] u) σ) : ax_W shM (d + 1) mX12_unit Q 4 [some (ax_r 0), none] [ax_i rr] σ := by
  refine ax_istore_n (q := 5) (i := 1) (lv2 := [some (ax_r 0), some (ax_i rr)]) dX12_unit_4 rfl rfl (by decide) rfl rfl ?_
  refine ax_iload_n (q := 6) (i := 1) dX12_unit_5 rfl rfl rfl ?_
  refine ax_bipush (q := 8) dX12_unit_6 rfl kb_33 ?_
  refine ax_icmp_ne (tgt := 47) (q := 11) dX12_unit_8 (by decide) rfl (fun c1 => ?_) (fun c1 => ?_)
  · refine ax_iload_n (q := 48) (i := 1) dX12_unit_47 rfl rfl rfl ?_
    refine ax_bipush (q := 50) dX12_unit_48 rfl kb_40 ?_
    refine ax_icmp_ne (tgt := 78) (q := 53) dX12_unit_50 (by decide) rfl (fun c2 => ?_) (fun c2 => ?_)
    · refine ax_aload_n (q := 79) (i := 0) dX12_unit_78 rfl rfl rfl ?_
      refine ax_fg (lv2 := [some (ax_r 0), none]) ⟨rfl, trivial⟩ ?_
      exact ax_callVcv (q := 82) (As := []) (st := []) dX12_unit_79 rfl lk_X12_158 shM_0 rfl rfl rfl rfl (Nat.le_of_ble_eq_true rfl) (k1 c1 c2)
    · refine ax_aload_n (q := 54) (i := 0) dX12_unit_53 rfl rfl rfl ?_
      refine ax_fg (lv2 := [some (ax_r 0), none]) ⟨rfl, trivial⟩ ?_
      exact ax_callVcv (q := 57) (As := []) (st := []) dX12_unit_54 rfl lk_X12_155 shM_0 rfl rfl rfl rfl (Nat.le_of_ble_eq_true rfl) (k2 c1 c2)
  · refine ax_aload_n (q := 12) (i := 0) dX12_unit_11 rfl rfl rfl ?_
    refine ax_fg (lv2 := [some (ax_r 0), none]) ⟨rfl, trivial⟩ ?_
    exact ax_callVcv (q := 15) (As := []) (st := []) dX12_unit_12 rfl lk_X12_155 shM_0 rfl rfl rfl rfl (Nat.le_of_ble_eq_true rfl) (k3 c1)
set_option maxRecDepth 20000 in
theorem s_X12_unit_15 {d : Nat} (hd : 0 ≤ d) {Q : Option ax_V → ax_S → Prop} (σ : ax_S)  (k1 : (¬ (σ.1 0 4) = (-1 : Int32)) → Q none σ) (k2 : (¬ (¬ (σ.1 0 4) = (-1 : Int32))) → ax_Ct shM d mX12_unit [ax_r 0] (fun r u => r = none ∧ ax_W shM (d + 1) mX12_unit Q 27 [some (ax_r 0), none] [] u) σ) : ax_W shM (d + 1) mX12_unit Q 15 [some (ax_r 0), none] [] σ := by
  refine ax_aload_n (q := 16) (i := 0) dX12_unit_15 rfl rfl rfl ?_
  refine ax_get (q := 19) (k := 0) (j := 4) (v := ax_i (σ.1 0 4)) dX12_unit_16 rfl shM_0 rfl rfl rfl (by decide) fl_X12_125 ?_
  refine ax_iconst (q := 20) dX12_unit_19 rfl ki_m1 ?_
  refine ax_icmp_ne (tgt := 94) (q := 23) dX12_unit_20 (by decide) rfl (fun c1 => ?_) (fun c1 => ?_)
  · exact ax_vret dX12_unit_94 rfl (k1 c1)
  · refine ax_aload_n (q := 24) (i := 0) dX12_unit_23 rfl rfl rfl ?_
    exact ax_callVcv (q := 27) (As := []) (st := []) dX12_unit_24 rfl lk_X12_174 shM_0 rfl rfl rfl rfl (Nat.le_of_ble_eq_true rfl) (k2 c1)
set_option maxRecDepth 20000 in
theorem s_X12_unit_57 {d : Nat} (hd : 0 ≤ d) {Q : Option ax_V → ax_S → Prop} (σ : ax_S)  (k1 : (¬ (σ.1 0 4) = (-1 : Int32)) → Q none σ) (k2 : (¬ (¬ (σ.1 0 4) = (-1 : Int32))) → ax_Ct shM d mX12_condition [ax_r 0] (fun r u => r = none ∧ ax_W shM (d + 1) mX12_unit Q 69 [some (ax_r 0), none] [] u) σ) : ax_W shM (d + 1) mX12_unit Q 57 [some (ax_r 0), none] [] σ := by
  refine ax_aload_n (q := 58) (i := 0) dX12_unit_57 rfl rfl rfl ?_
  refine ax_get (q := 61) (k := 0) (j := 4) (v := ax_i (σ.1 0 4)) dX12_unit_58 rfl shM_0 rfl rfl rfl (by decide) fl_X12_125 ?_
  refine ax_iconst (q := 62) dX12_unit_61 rfl ki_m1 ?_
  refine ax_icmp_ne (tgt := 94) (q := 65) dX12_unit_62 (by decide) rfl (fun c1 => ?_) (fun c1 => ?_)
  · exact ax_vret dX12_unit_94 rfl (k1 c1)
  · refine ax_aload_n (q := 66) (i := 0) dX12_unit_65 rfl rfl rfl ?_
    exact ax_callVcv (q := 69) (As := []) (st := []) dX12_unit_66 rfl lk_X12_177 shM_0 rfl rfl rfl rfl (Nat.le_of_ble_eq_true rfl) (k2 c1)
set_option maxRecDepth 20000 in
theorem s_X12_unit_82 {d : Nat} (hd : 0 ≤ d) {Q : Option ax_V → ax_S → Prop} (σ : ax_S)  (k1 : (¬ (σ.1 0 4) = (-1 : Int32)) → Q none σ) (k2 : (¬ (¬ (σ.1 0 4) = (-1 : Int32))) → ax_Ct shM d mX12_compare [ax_r 0] (fun r u => r = none ∧ ax_W shM (d + 1) mX12_unit Q 94 [none, none] [] u) σ) : ax_W shM (d + 1) mX12_unit Q 82 [some (ax_r 0), none] [] σ := by
  refine ax_aload_n (q := 83) (i := 0) dX12_unit_82 rfl rfl rfl ?_
  refine ax_get (q := 86) (k := 0) (j := 4) (v := ax_i (σ.1 0 4)) dX12_unit_83 rfl shM_0 rfl rfl rfl (by decide) fl_X12_125 ?_
  refine ax_iconst (q := 87) dX12_unit_86 rfl ki_m1 ?_
  refine ax_icmp_ne (tgt := 94) (q := 90) dX12_unit_87 (by decide) rfl (fun c1 => ?_) (fun c1 => ?_)
  · exact ax_vret dX12_unit_94 rfl (k1 c1)
  · refine ax_aload_n (q := 91) (i := 0) dX12_unit_90 rfl rfl rfl ?_
    refine ax_fg (lv2 := [none, none]) trivial ?_
    exact ax_callVcv (q := 94) (As := []) (st := []) dX12_unit_91 rfl lk_X12_180 shM_0 rfl rfl rfl rfl (Nat.le_of_ble_eq_true rfl) (k2 c1)
set_option maxRecDepth 20000 in
theorem s_X12_unit_27 {d : Nat} (hd : 1 ≤ d) {Q : Option ax_V → ax_S → Prop} (σ : ax_S)  (h1 : vp_in (σ.1 0 14) 5) (h2 : vp_in (((520 : Int32) * (σ.1 0 14)) + (σ.1 4 (Int32.toNatClampNeg (σ.1 0 14)))) 2600) (k3 : Q none (ax_ui (ax_ui (ax_ui (ax_ui σ 2 (Int32.toNatClampNeg (((520 : Int32) * (σ.1 0 14)) + (σ.1 4 (Int32.toNatClampNeg (σ.1 0 14))))) (9 : Int32)) 3 (Int32.toNatClampNeg (((520 : Int32) * (σ.1 0 14)) + (σ.1 4 (Int32.toNatClampNeg (σ.1 0 14))))) (0 : Int32)) 4 (Int32.toNatClampNeg (σ.1 0 14)) ((σ.1 4 (Int32.toNatClampNeg (σ.1 0 14))) + (1 : Int32))) 0 5 ((σ.1 0 5) - (1 : Int32)))) : ax_W shM (d + 1) mX12_unit Q 27 [some (ax_r 0), none] [] σ := by
  refine ax_aload_n (q := 28) (i := 0) dX12_unit_27 rfl rfl rfl ?_
  refine ax_bipush (q := 30) dX12_unit_28 rfl kb_9 ?_
  refine ax_iconst (q := 31) dX12_unit_30 rfl ki_0 ?_
  refine ax_callVfv (q := 34) (As := [ax_i (9 : Int32), ax_i (0 : Int32)]) (st := []) (σ2 := (ax_ui (ax_ui (ax_ui σ 2 (Int32.toNatClampNeg (((520 : Int32) * (σ.1 0 14)) + (σ.1 4 (Int32.toNatClampNeg (σ.1 0 14))))) (9 : Int32)) 3 (Int32.toNatClampNeg (((520 : Int32) * (σ.1 0 14)) + (σ.1 4 (Int32.toNatClampNeg (σ.1 0 14))))) (0 : Int32)) 4 (Int32.toNatClampNeg (σ.1 0 14)) ((σ.1 4 (Int32.toNatClampNeg (σ.1 0 14))) + (1 : Int32)))) dX12_unit_31 rfl lk_X12_147 shM_0 rfl rfl rfl rfl (Nat.le_of_ble_eq_true rfl) (f_X12_put σ (9 : Int32) (0 : Int32) h1 h2 (d := d) (by omega)) ?_
  refine ax_aload_n (q := 35) (i := 0) dX12_unit_34 rfl rfl rfl ?_
  refine ax_dupr (q := 36) dX12_unit_35 rfl ?_
  refine ax_get (q := 39) (k := 0) (j := 5) (v := ax_i (σ.1 0 5)) dX12_unit_36 rfl shM_0 rfl rfl rfl (by decide) fl_X12_131 ?_
  refine ax_iconst (q := 40) dX12_unit_39 rfl ki_1 ?_
  refine ax_isub (q := 41) dX12_unit_40 rfl ?_
  refine ax_puti (q := 44) (k := 0) (j := 5) dX12_unit_41 rfl shM_0 rfl rfl (by decide) fl_X12_131 rfl rfl rfl rfl ?_
  refine ax_goto (tgt := 94) dX12_unit_44 (by decide) ?_
  exact ax_vret dX12_unit_94 rfl k3
set_option maxRecDepth 20000 in
theorem s_X12_unit_69 {d : Nat} (hd : 0 ≤ d) {Q : Option ax_V → ax_S → Prop} (σ : ax_S)  (k1 : ax_Ct shM d mX12_closes [ax_r 0, ax_i (41 : Int32)] (fun r u => r = none ∧ ax_W shM (d + 1) mX12_unit Q 75 [none, none] [] u) σ) : ax_W shM (d + 1) mX12_unit Q 69 [some (ax_r 0), none] [] σ := by
  refine ax_aload_n (q := 70) (i := 0) dX12_unit_69 rfl rfl rfl ?_
  refine ax_bipush (q := 72) dX12_unit_70 rfl kb_41 ?_
  refine ax_fg (lv2 := [none, none]) trivial ?_
  exact ax_callVcv (q := 75) (As := [ax_i (41 : Int32)]) (st := []) dX12_unit_72 rfl lk_X12_161 shM_0 rfl rfl rfl rfl (Nat.le_of_ble_eq_true rfl) k1
set_option maxRecDepth 20000 in
theorem s_X12_unit_94 {d : Nat} (hd : 0 ≤ d) {Q : Option ax_V → ax_S → Prop} (σ : ax_S)  (k1 : Q none σ) : ax_W shM (d + 1) mX12_unit Q 94 [none, none] [] σ := by
  exact ax_vret dX12_unit_94 rfl k1
set_option maxRecDepth 20000 in
theorem s_X12_unit_75 {d : Nat} (hd : 0 ≤ d) {Q : Option ax_V → ax_S → Prop} (σ : ax_S)  (k1 : Q none σ) : ax_W shM (d + 1) mX12_unit Q 75 [none, none] [] σ := by
  refine ax_goto (tgt := 94) dX12_unit_75 (by decide) ?_
  exact ax_vret dX12_unit_94 rfl k1
set_option maxRecDepth 20000 in
theorem s_X12_clause_0 {d : Nat} (hd : 0 ≤ d) {Q : Option ax_V → ax_S → Prop} (σ : ax_S)  (h1 : vp_in (σ.1 0 14) 5) (h2 : (¬ (σ.1 0 4) = (-1 : Int32)) → ((σ.1 0 4) = (-1 : Int32)) → vp_in (σ.1 0 14) 5) (h3 : (¬ (σ.1 0 4) = (-1 : Int32)) → ((σ.1 0 4) = (-1 : Int32)) → vp_in (((140 : Int32) * (σ.1 0 14)) + (σ.1 5 (Int32.toNatClampNeg (σ.1 0 14)))) 700) (k4 : (¬ (σ.1 0 4) = (-1 : Int32)) → ((σ.1 0 4) = (-1 : Int32)) → ax_Ct shM d mX12_look [ax_r 0] (fun r u => ∃ x : Int32, r = some (ax_i x) ∧ ax_W shM (d + 1) mX12_clause Q 109 [some (ax_r 0), some (ax_i (((140 : Int32) * (σ.1 0 14)) + (σ.1 5 (Int32.toNatClampNeg (σ.1 0 14))))), none] (ax_i x :: []) u) (ax_ui (ax_ui (ax_ui σ 0 3 ((σ.1 0 3) + (1 : Int32))) 0 3 (((σ.1 0 3) + (1 : Int32)) + (1 : Int32))) 6 (Int32.toNatClampNeg (((140 : Int32) * (σ.1 0 14)) + (σ.1 5 (Int32.toNatClampNeg (σ.1 0 14))))) (σ.1 4 (Int32.toNatClampNeg (σ.1 0 14))))) (k5 : (¬ (σ.1 0 4) = (-1 : Int32)) → (¬ ((σ.1 0 4) = (-1 : Int32))) → Q none (ax_ui (ax_ui σ 0 3 ((σ.1 0 3) + (1 : Int32))) 0 3 (((σ.1 0 3) + (1 : Int32)) + (1 : Int32)))) (k6 : (¬ (¬ (σ.1 0 4) = (-1 : Int32))) → ax_Ct shM d mX12_look [ax_r 0] (fun r u => ∃ x : Int32, r = some (ax_i x) ∧ ax_W shM (d + 1) mX12_clause Q 31 [some (ax_r 0), some (ax_i (((140 : Int32) * (σ.1 0 14)) + (σ.1 5 (Int32.toNatClampNeg (σ.1 0 14))))), none] (ax_i x :: []) u) σ) : ax_W shM (d + 1) mX12_clause Q 0 [some (ax_r 0), none, none] [] σ := by
  refine ax_sipush (q := 3) dX12_clause_0 rfl ks_140 ?_
  refine ax_aload_n (q := 4) (i := 0) dX12_clause_3 rfl rfl rfl ?_
  refine ax_get (q := 7) (k := 0) (j := 14) (v := ax_i (σ.1 0 14)) dX12_clause_4 rfl shM_0 rfl rfl rfl (by decide) fl_X12_128 ?_
  refine ax_imul (q := 8) dX12_clause_7 rfl ?_
  refine ax_aload_n (q := 9) (i := 0) dX12_clause_8 rfl rfl rfl ?_
  refine ax_get (q := 12) (k := 0) (j := 9) (v := ax_r 5) dX12_clause_9 rfl shM_0 rfl rfl rfl (by decide) fl_X12_22 ?_
  refine ax_aload_n (q := 13) (i := 0) dX12_clause_12 rfl rfl rfl ?_
  refine ax_get (q := 16) (k := 0) (j := 14) (v := ax_i (σ.1 0 14)) dX12_clause_13 rfl shM_0 rfl rfl rfl (by decide) fl_X12_128 ?_
  refine ax_iald (q := 17) (a := (Int32.toNatClampNeg (σ.1 0 14))) (v := (σ.1 5 (Int32.toNatClampNeg (σ.1 0 14)))) dX12_clause_16 rfl shM_5 h1 rfl rfl ?_
  refine ax_iadd (q := 18) dX12_clause_17 rfl ?_
  refine ax_istore_n (q := 19) (i := 1) (lv2 := [some (ax_r 0), some (ax_i (((140 : Int32) * (σ.1 0 14)) + (σ.1 5 (Int32.toNatClampNeg (σ.1 0 14))))), none]) dX12_clause_18 rfl rfl (by decide) rfl rfl ?_
  refine ax_aload_n (q := 20) (i := 0) dX12_clause_19 rfl rfl rfl ?_
  refine ax_get (q := 23) (k := 0) (j := 4) (v := ax_i (σ.1 0 4)) dX12_clause_20 rfl shM_0 rfl rfl rfl (by decide) fl_X12_125 ?_
  refine ax_iconst (q := 24) dX12_clause_23 rfl ki_m1 ?_
  refine ax_icmp_ne (tgt := 40) (q := 27) dX12_clause_24 (by decide) rfl (fun c1 => ?_) (fun c1 => ?_)
  · refine ax_aload_n (q := 41) (i := 0) dX12_clause_40 rfl rfl rfl ?_
    refine ax_dupr (q := 42) dX12_clause_41 rfl ?_
    refine ax_get (q := 45) (k := 0) (j := 3) (v := ax_i (σ.1 0 3)) dX12_clause_42 rfl shM_0 rfl rfl rfl (by decide) fl_X12_118 ?_
    refine ax_iconst (q := 46) dX12_clause_45 rfl ki_1 ?_
    refine ax_iadd (q := 47) dX12_clause_46 rfl ?_
    refine ax_puti (q := 50) (k := 0) (j := 3) dX12_clause_47 rfl shM_0 rfl rfl (by decide) fl_X12_118 rfl rfl rfl rfl ?_
    refine ax_aload_n (q := 51) (i := 0) dX12_clause_50 rfl rfl rfl ?_
    refine ax_get (q := 54) (k := 0) (j := 4) (v := ax_i (σ.1 0 4)) dX12_clause_51 rfl shM_0 rfl rfl rfl (by decide) fl_X12_125 ?_
    refine ax_iconst (q := 55) dX12_clause_54 rfl ki_m1 ?_
    refine ax_icmp_ne (tgt := 71) (q := 58) dX12_clause_55 (by decide) rfl (fun c2 => ?_) (fun c2 => ?_)
    · refine ax_aload_n (q := 72) (i := 0) dX12_clause_71 rfl rfl rfl ?_
      refine ax_dupr (q := 73) dX12_clause_72 rfl ?_
      refine ax_get (q := 76) (k := 0) (j := 3) (v := ax_i ((σ.1 0 3) + (1 : Int32))) dX12_clause_73 rfl shM_0 rfl rfl rfl (by decide) fl_X12_118 ?_
      refine ax_iconst (q := 77) dX12_clause_76 rfl ki_1 ?_
      refine ax_iadd (q := 78) dX12_clause_77 rfl ?_
      refine ax_puti (q := 81) (k := 0) (j := 3) dX12_clause_78 rfl shM_0 rfl rfl (by decide) fl_X12_118 rfl rfl rfl rfl ?_
      refine ax_aload_n (q := 82) (i := 0) dX12_clause_81 rfl rfl rfl ?_
      refine ax_get (q := 85) (k := 0) (j := 4) (v := ax_i (σ.1 0 4)) dX12_clause_82 rfl shM_0 rfl rfl rfl (by decide) fl_X12_125 ?_
      refine ax_iconst (q := 86) dX12_clause_85 rfl ki_m1 ?_
      refine ax_icmp_eq (tgt := 90) (q := 89) dX12_clause_86 (by decide) rfl (fun c3 => ?_) (fun c3 => ?_)
      · refine ax_aload_n (q := 91) (i := 0) dX12_clause_90 rfl rfl rfl ?_
        refine ax_get (q := 94) (k := 0) (j := 10) (v := ax_r 6) dX12_clause_91 rfl shM_0 rfl rfl rfl (by decide) fl_X12_25 ?_
        refine ax_iload_n (q := 95) (i := 1) dX12_clause_94 rfl rfl rfl ?_
        refine ax_aload_n (q := 96) (i := 0) dX12_clause_95 rfl rfl rfl ?_
        refine ax_get (q := 99) (k := 0) (j := 8) (v := ax_r 4) dX12_clause_96 rfl shM_0 rfl rfl rfl (by decide) fl_X12_19 ?_
        refine ax_aload_n (q := 100) (i := 0) dX12_clause_99 rfl rfl rfl ?_
        refine ax_get (q := 103) (k := 0) (j := 14) (v := ax_i (σ.1 0 14)) dX12_clause_100 rfl shM_0 rfl rfl rfl (by decide) fl_X12_128 ?_
        refine ax_iald (q := 104) (a := (Int32.toNatClampNeg (σ.1 0 14))) (v := (σ.1 4 (Int32.toNatClampNeg (σ.1 0 14)))) dX12_clause_103 rfl shM_4 (h2 c1 c3) rfl rfl ?_
        refine ax_iast (q := 105) (a := (Int32.toNatClampNeg (((140 : Int32) * (σ.1 0 14)) + (σ.1 5 (Int32.toNatClampNeg (σ.1 0 14)))))) dX12_clause_104 rfl shM_6 (h3 c1 c3) rfl ?_
        refine ax_aload_n (q := 106) (i := 0) dX12_clause_105 rfl rfl rfl ?_
        exact ax_callVci (q := 109) (As := []) (st := []) dX12_clause_106 rfl lk_X12_137 shM_0 rfl rfl rfl rfl (Nat.le_of_ble_eq_true rfl) (k4 c1 c3)
      · exact ax_vret dX12_clause_89 rfl (k5 c1 c3)
    · exact absurd c1 c2
  · refine ax_aload_n (q := 28) (i := 0) dX12_clause_27 rfl rfl rfl ?_
    exact ax_callVci (q := 31) (As := []) (st := []) dX12_clause_28 rfl lk_X12_137 shM_0 rfl rfl rfl rfl (Nat.le_of_ble_eq_true rfl) (k6 c1)
set_option maxRecDepth 20000 in
theorem s_X12_clause_109 {d : Nat} (hd : 0 ≤ d) {Q : Option ax_V → ax_S → Prop} (σ : ax_S) (x1 : Int32) (rr : Int32) (k1 : (rr = (33 : Int32)) → ((1 : Int32) = 0) → ax_Ct shM d mX12_sum [ax_r 0] (fun r u => r = none ∧ ax_W shM (d + 1) mX12_clause Q 144 [some (ax_r 0), some (ax_i x1), none] [] u) σ) (k2 : (rr = (33 : Int32)) → (¬ ((1 : Int32) = 0)) → ax_Ct shM d mX12_condition [ax_r 0] (fun r u => r = none ∧ ax_W shM (d + 1) mX12_clause Q 137 [some (ax_r 0), some (ax_i x1), some (ax_i (1 : Int32))] [] u) σ) (k3 : (¬ (rr = (33 : Int32))) → ax_Ct shM d mX12_look [ax_r 0] (fun r u => ∃ x : Int32, r = some (ax_i x) ∧ ax_W shM (d + 1) mX12_clause Q 118 [some (ax_r 0), some (ax_i x1), none] (ax_i x :: []) u) σ) : ax_W shM (d + 1) mX12_clause Q 109 [some (ax_r 0), some (ax_i x1), none] [ax_i rr] σ := by
  refine ax_bipush (q := 111) dX12_clause_109 rfl kb_33 ?_
  refine ax_icmp_eq (tgt := 123) (q := 114) dX12_clause_111 (by decide) rfl (fun c1 => ?_) (fun c1 => ?_)
  · refine ax_iconst (q := 124) dX12_clause_123 rfl ki_1 ?_
    refine ax_goto (tgt := 128) dX12_clause_124 (by decide) ?_
    refine ax_istore_n (q := 129) (i := 2) (lv2 := [some (ax_r 0), some (ax_i x1), some (ax_i (1 : Int32))]) dX12_clause_128 rfl rfl (by decide) rfl rfl ?_
    refine ax_iload_n (q := 130) (i := 2) dX12_clause_129 rfl rfl rfl ?_
    refine ax_if_eq (tgt := 140) (q := 133) dX12_clause_130 (by decide) rfl (fun c2 => ?_) (fun c2 => ?_)
    · refine ax_aload_n (q := 141) (i := 0) dX12_clause_140 rfl rfl rfl ?_
      refine ax_fg (lv2 := [some (ax_r 0), some (ax_i x1), none]) ⟨rfl, rfl, trivial⟩ ?_
      exact ax_callVcv (q := 144) (As := []) (st := []) dX12_clause_141 rfl lk_X12_158 shM_0 rfl rfl rfl rfl (Nat.le_of_ble_eq_true rfl) (k1 c1 c2)
    · refine ax_aload_n (q := 134) (i := 0) dX12_clause_133 rfl rfl rfl ?_
      exact ax_callVcv (q := 137) (As := []) (st := []) dX12_clause_134 rfl lk_X12_177 shM_0 rfl rfl rfl rfl (Nat.le_of_ble_eq_true rfl) (k2 c1 c2)
  · refine ax_aload_n (q := 115) (i := 0) dX12_clause_114 rfl rfl rfl ?_
    exact ax_callVci (q := 118) (As := []) (st := []) dX12_clause_115 rfl lk_X12_137 shM_0 rfl rfl rfl rfl (Nat.le_of_ble_eq_true rfl) (k3 c1)
set_option maxRecDepth 20000 in
theorem s_X12_clause_31 {d : Nat} (hd : 1 ≤ d) {Q : Option ax_V → ax_S → Prop} (σ : ax_S) (x1 : Int32) (rr : Int32) (h1 : (rr = (121 : Int32)) → (¬ (σ.1 0 4) = (-1 : Int32)) → ((σ.1 0 4) = (-1 : Int32)) → vp_in (σ.1 0 14) 5) (h2 : (rr = (121 : Int32)) → (¬ (σ.1 0 4) = (-1 : Int32)) → ((σ.1 0 4) = (-1 : Int32)) → vp_in x1 700) (k3 : (rr = (121 : Int32)) → (¬ (σ.1 0 4) = (-1 : Int32)) → ((σ.1 0 4) = (-1 : Int32)) → ax_Ct shM d mX12_look [ax_r 0] (fun r u => ∃ x : Int32, r = some (ax_i x) ∧ ax_W shM (d + 1) mX12_clause Q 109 [some (ax_r 0), some (ax_i x1), none] (ax_i x :: []) u) (ax_ui (ax_ui (ax_ui σ 0 3 ((σ.1 0 3) + (1 : Int32))) 0 3 (((σ.1 0 3) + (1 : Int32)) + (1 : Int32))) 6 (Int32.toNatClampNeg x1) (σ.1 4 (Int32.toNatClampNeg (σ.1 0 14))))) (k4 : (rr = (121 : Int32)) → (¬ (σ.1 0 4) = (-1 : Int32)) → (¬ ((σ.1 0 4) = (-1 : Int32))) → Q none (ax_ui (ax_ui σ 0 3 ((σ.1 0 3) + (1 : Int32))) 0 3 (((σ.1 0 3) + (1 : Int32)) + (1 : Int32)))) (k5 : (rr = (121 : Int32)) → (¬ (¬ (σ.1 0 4) = (-1 : Int32))) → ax_Ct shM d mX12_look [ax_r 0] (fun r u => ∃ x : Int32, r = some (ax_i x) ∧ ax_W shM (d + 1) mX12_clause Q 62 [some (ax_r 0), some (ax_i x1), none] (ax_i x :: []) u) (ax_ui σ 0 3 ((σ.1 0 3) + (1 : Int32)))) (h6 : (¬ (rr = (121 : Int32))) → (¬ (if (¬ (σ.1 0 4) = (-1 : Int32)) then (σ.1 0 4) else (σ.1 0 3)) = (-1 : Int32)) → ((if (¬ (σ.1 0 4) = (-1 : Int32)) then (σ.1 0 4) else (σ.1 0 3)) = (-1 : Int32)) → vp_in (σ.1 0 14) 5) (h7 : (¬ (rr = (121 : Int32))) → (¬ (if (¬ (σ.1 0 4) = (-1 : Int32)) then (σ.1 0 4) else (σ.1 0 3)) = (-1 : Int32)) → ((if (¬ (σ.1 0 4) = (-1 : Int32)) then (σ.1 0 4) else (σ.1 0 3)) = (-1 : Int32)) → vp_in x1 700) (k8 : (¬ (rr = (121 : Int32))) → (¬ (if (¬ (σ.1 0 4) = (-1 : Int32)) then (σ.1 0 4) else (σ.1 0 3)) = (-1 : Int32)) → ((if (¬ (σ.1 0 4) = (-1 : Int32)) then (σ.1 0 4) else (σ.1 0 3)) = (-1 : Int32)) → ax_Ct shM d mX12_look [ax_r 0] (fun r u => ∃ x : Int32, r = some (ax_i x) ∧ ax_W shM (d + 1) mX12_clause Q 109 [some (ax_r 0), some (ax_i x1), none] (ax_i x :: []) u) (ax_ui (ax_ui (ax_ui (ax_ui σ 0 4 (if (¬ (σ.1 0 4) = (-1 : Int32)) then (σ.1 0 4) else (σ.1 0 3))) 0 3 ((σ.1 0 3) + (1 : Int32))) 0 3 (((σ.1 0 3) + (1 : Int32)) + (1 : Int32))) 6 (Int32.toNatClampNeg x1) (σ.1 4 (Int32.toNatClampNeg (σ.1 0 14))))) (k9 : (¬ (rr = (121 : Int32))) → (¬ (if (¬ (σ.1 0 4) = (-1 : Int32)) then (σ.1 0 4) else (σ.1 0 3)) = (-1 : Int32)) → (¬ ((if (¬ (σ.1 0 4) = (-1 : Int32)) then (σ.1 0 4) else (σ.1 0 3)) = (-1 : Int32))) → Q none (ax_ui (ax_ui (ax_ui σ 0 4 (if (¬ (σ.1 0 4) = (-1 : Int32)) then (σ.1 0 4) else (σ.1 0 3))) 0 3 ((σ.1 0 3) + (1 : Int32))) 0 3 (((σ.1 0 3) + (1 : Int32)) + (1 : Int32)))) (k10 : (¬ (rr = (121 : Int32))) → (¬ (¬ (if (¬ (σ.1 0 4) = (-1 : Int32)) then (σ.1 0 4) else (σ.1 0 3)) = (-1 : Int32))) → ax_Ct shM d mX12_look [ax_r 0] (fun r u => ∃ x : Int32, r = some (ax_i x) ∧ ax_W shM (d + 1) mX12_clause Q 62 [some (ax_r 0), some (ax_i x1), none] (ax_i x :: []) u) (ax_ui (ax_ui σ 0 4 (if (¬ (σ.1 0 4) = (-1 : Int32)) then (σ.1 0 4) else (σ.1 0 3))) 0 3 ((σ.1 0 3) + (1 : Int32)))) : ax_W shM (d + 1) mX12_clause Q 31 [some (ax_r 0), some (ax_i x1), none] [ax_i rr] σ := by
  refine ax_bipush (q := 33) dX12_clause_31 rfl kb_121 ?_
  refine ax_icmp_eq (tgt := 40) (q := 36) dX12_clause_33 (by decide) rfl (fun c1 => ?_) (fun c1 => ?_)
  · refine ax_aload_n (q := 41) (i := 0) dX12_clause_40 rfl rfl rfl ?_
    refine ax_dupr (q := 42) dX12_clause_41 rfl ?_
    refine ax_get (q := 45) (k := 0) (j := 3) (v := ax_i (σ.1 0 3)) dX12_clause_42 rfl shM_0 rfl rfl rfl (by decide) fl_X12_118 ?_
    refine ax_iconst (q := 46) dX12_clause_45 rfl ki_1 ?_
    refine ax_iadd (q := 47) dX12_clause_46 rfl ?_
    refine ax_puti (q := 50) (k := 0) (j := 3) dX12_clause_47 rfl shM_0 rfl rfl (by decide) fl_X12_118 rfl rfl rfl rfl ?_
    refine ax_aload_n (q := 51) (i := 0) dX12_clause_50 rfl rfl rfl ?_
    refine ax_get (q := 54) (k := 0) (j := 4) (v := ax_i (σ.1 0 4)) dX12_clause_51 rfl shM_0 rfl rfl rfl (by decide) fl_X12_125 ?_
    refine ax_iconst (q := 55) dX12_clause_54 rfl ki_m1 ?_
    refine ax_icmp_ne (tgt := 71) (q := 58) dX12_clause_55 (by decide) rfl (fun c2 => ?_) (fun c2 => ?_)
    · refine ax_aload_n (q := 72) (i := 0) dX12_clause_71 rfl rfl rfl ?_
      refine ax_dupr (q := 73) dX12_clause_72 rfl ?_
      refine ax_get (q := 76) (k := 0) (j := 3) (v := ax_i ((σ.1 0 3) + (1 : Int32))) dX12_clause_73 rfl shM_0 rfl rfl rfl (by decide) fl_X12_118 ?_
      refine ax_iconst (q := 77) dX12_clause_76 rfl ki_1 ?_
      refine ax_iadd (q := 78) dX12_clause_77 rfl ?_
      refine ax_puti (q := 81) (k := 0) (j := 3) dX12_clause_78 rfl shM_0 rfl rfl (by decide) fl_X12_118 rfl rfl rfl rfl ?_
      refine ax_aload_n (q := 82) (i := 0) dX12_clause_81 rfl rfl rfl ?_
      refine ax_get (q := 85) (k := 0) (j := 4) (v := ax_i (σ.1 0 4)) dX12_clause_82 rfl shM_0 rfl rfl rfl (by decide) fl_X12_125 ?_
      refine ax_iconst (q := 86) dX12_clause_85 rfl ki_m1 ?_
      refine ax_icmp_eq (tgt := 90) (q := 89) dX12_clause_86 (by decide) rfl (fun c3 => ?_) (fun c3 => ?_)
      · refine ax_aload_n (q := 91) (i := 0) dX12_clause_90 rfl rfl rfl ?_
        refine ax_get (q := 94) (k := 0) (j := 10) (v := ax_r 6) dX12_clause_91 rfl shM_0 rfl rfl rfl (by decide) fl_X12_25 ?_
        refine ax_iload_n (q := 95) (i := 1) dX12_clause_94 rfl rfl rfl ?_
        refine ax_aload_n (q := 96) (i := 0) dX12_clause_95 rfl rfl rfl ?_
        refine ax_get (q := 99) (k := 0) (j := 8) (v := ax_r 4) dX12_clause_96 rfl shM_0 rfl rfl rfl (by decide) fl_X12_19 ?_
        refine ax_aload_n (q := 100) (i := 0) dX12_clause_99 rfl rfl rfl ?_
        refine ax_get (q := 103) (k := 0) (j := 14) (v := ax_i (σ.1 0 14)) dX12_clause_100 rfl shM_0 rfl rfl rfl (by decide) fl_X12_128 ?_
        refine ax_iald (q := 104) (a := (Int32.toNatClampNeg (σ.1 0 14))) (v := (σ.1 4 (Int32.toNatClampNeg (σ.1 0 14)))) dX12_clause_103 rfl shM_4 (h1 c1 c2 c3) rfl rfl ?_
        refine ax_iast (q := 105) (a := (Int32.toNatClampNeg x1)) dX12_clause_104 rfl shM_6 (h2 c1 c2 c3) rfl ?_
        refine ax_aload_n (q := 106) (i := 0) dX12_clause_105 rfl rfl rfl ?_
        exact ax_callVci (q := 109) (As := []) (st := []) dX12_clause_106 rfl lk_X12_137 shM_0 rfl rfl rfl rfl (Nat.le_of_ble_eq_true rfl) (k3 c1 c2 c3)
      · exact ax_vret dX12_clause_89 rfl (k4 c1 c2 c3)
    · refine ax_aload_n (q := 59) (i := 0) dX12_clause_58 rfl rfl rfl ?_
      exact ax_callVci (q := 62) (As := []) (st := []) dX12_clause_59 rfl lk_X12_137 shM_0 rfl rfl rfl rfl (Nat.le_of_ble_eq_true rfl) (k5 c1 c2)
  · refine ax_aload_n (q := 37) (i := 0) dX12_clause_36 rfl rfl rfl ?_
    refine ax_callVfv (q := 40) (As := []) (st := []) (σ2 := (ax_ui σ 0 4 (if (¬ (σ.1 0 4) = (-1 : Int32)) then (σ.1 0 4) else (σ.1 0 3)))) dX12_clause_37 rfl lk_X12_134 shM_0 rfl rfl rfl rfl (Nat.le_of_ble_eq_true rfl) (f_X12_bad σ   (d := d) (by omega)) ?_
    refine ax_aload_n (q := 41) (i := 0) dX12_clause_40 rfl rfl rfl ?_
    refine ax_dupr (q := 42) dX12_clause_41 rfl ?_
    refine ax_get (q := 45) (k := 0) (j := 3) (v := ax_i (σ.1 0 3)) dX12_clause_42 rfl shM_0 rfl rfl rfl (by decide) fl_X12_118 ?_
    refine ax_iconst (q := 46) dX12_clause_45 rfl ki_1 ?_
    refine ax_iadd (q := 47) dX12_clause_46 rfl ?_
    refine ax_puti (q := 50) (k := 0) (j := 3) dX12_clause_47 rfl shM_0 rfl rfl (by decide) fl_X12_118 rfl rfl rfl rfl ?_
    refine ax_aload_n (q := 51) (i := 0) dX12_clause_50 rfl rfl rfl ?_
    refine ax_get (q := 54) (k := 0) (j := 4) (v := ax_i (if (¬ (σ.1 0 4) = (-1 : Int32)) then (σ.1 0 4) else (σ.1 0 3))) dX12_clause_51 rfl shM_0 rfl rfl rfl (by decide) fl_X12_125 ?_
    refine ax_iconst (q := 55) dX12_clause_54 rfl ki_m1 ?_
    refine ax_icmp_ne (tgt := 71) (q := 58) dX12_clause_55 (by decide) rfl (fun c4 => ?_) (fun c4 => ?_)
    · refine ax_aload_n (q := 72) (i := 0) dX12_clause_71 rfl rfl rfl ?_
      refine ax_dupr (q := 73) dX12_clause_72 rfl ?_
      refine ax_get (q := 76) (k := 0) (j := 3) (v := ax_i ((σ.1 0 3) + (1 : Int32))) dX12_clause_73 rfl shM_0 rfl rfl rfl (by decide) fl_X12_118 ?_
      refine ax_iconst (q := 77) dX12_clause_76 rfl ki_1 ?_
      refine ax_iadd (q := 78) dX12_clause_77 rfl ?_
      refine ax_puti (q := 81) (k := 0) (j := 3) dX12_clause_78 rfl shM_0 rfl rfl (by decide) fl_X12_118 rfl rfl rfl rfl ?_
      refine ax_aload_n (q := 82) (i := 0) dX12_clause_81 rfl rfl rfl ?_
      refine ax_get (q := 85) (k := 0) (j := 4) (v := ax_i (if (¬ (σ.1 0 4) = (-1 : Int32)) then (σ.1 0 4) else (σ.1 0 3))) dX12_clause_82 rfl shM_0 rfl rfl rfl (by decide) fl_X12_125 ?_
      refine ax_iconst (q := 86) dX12_clause_85 rfl ki_m1 ?_
      refine ax_icmp_eq (tgt := 90) (q := 89) dX12_clause_86 (by decide) rfl (fun c5 => ?_) (fun c5 => ?_)
      · refine ax_aload_n (q := 91) (i := 0) dX12_clause_90 rfl rfl rfl ?_
        refine ax_get (q := 94) (k := 0) (j := 10) (v := ax_r 6) dX12_clause_91 rfl shM_0 rfl rfl rfl (by decide) fl_X12_25 ?_
        refine ax_iload_n (q := 95) (i := 1) dX12_clause_94 rfl rfl rfl ?_
        refine ax_aload_n (q := 96) (i := 0) dX12_clause_95 rfl rfl rfl ?_
        refine ax_get (q := 99) (k := 0) (j := 8) (v := ax_r 4) dX12_clause_96 rfl shM_0 rfl rfl rfl (by decide) fl_X12_19 ?_
        refine ax_aload_n (q := 100) (i := 0) dX12_clause_99 rfl rfl rfl ?_
        refine ax_get (q := 103) (k := 0) (j := 14) (v := ax_i (σ.1 0 14)) dX12_clause_100 rfl shM_0 rfl rfl rfl (by decide) fl_X12_128 ?_
        refine ax_iald (q := 104) (a := (Int32.toNatClampNeg (σ.1 0 14))) (v := (σ.1 4 (Int32.toNatClampNeg (σ.1 0 14)))) dX12_clause_103 rfl shM_4 (h6 c1 c4 c5) rfl rfl ?_
        refine ax_iast (q := 105) (a := (Int32.toNatClampNeg x1)) dX12_clause_104 rfl shM_6 (h7 c1 c4 c5) rfl ?_
        refine ax_aload_n (q := 106) (i := 0) dX12_clause_105 rfl rfl rfl ?_
        exact ax_callVci (q := 109) (As := []) (st := []) dX12_clause_106 rfl lk_X12_137 shM_0 rfl rfl rfl rfl (Nat.le_of_ble_eq_true rfl) (k8 c1 c4 c5)
      · exact ax_vret dX12_clause_89 rfl (k9 c1 c4 c5)
    · refine ax_aload_n (q := 59) (i := 0) dX12_clause_58 rfl rfl rfl ?_
      exact ax_callVci (q := 62) (As := []) (st := []) dX12_clause_59 rfl lk_X12_137 shM_0 rfl rfl rfl rfl (Nat.le_of_ble_eq_true rfl) (k10 c1 c4)
set_option maxRecDepth 20000 in
theorem s_X12_clause_118 {d : Nat} (hd : 0 ≤ d) {Q : Option ax_V → ax_S → Prop} (σ : ax_S) (x1 : Int32) (rr : Int32) (k1 : (¬ (¬ (¬ rr = (40 : Int32)))) → ax_Ct shM d mX12_sum [ax_r 0] (fun r u => r = none ∧ ax_W shM (d + 1) mX12_clause Q 144 [some (ax_r 0), some (ax_i x1), none] [] u) σ) (k2 : (¬ (¬ rr = (40 : Int32))) → ax_Ct shM d mX12_condition [ax_r 0] (fun r u => r = none ∧ ax_W shM (d + 1) mX12_clause Q 137 [some (ax_r 0), some (ax_i x1), some (ax_i (if (¬ (¬ rr = (40 : Int32))) then (1 : Int32) else 0))] [] u) σ) : ax_W shM (d + 1) mX12_clause Q 118 [some (ax_r 0), some (ax_i x1), none] [ax_i rr] σ := by
  refine ax_bipush (q := 120) dX12_clause_118 rfl kb_40 ?_
  have K2 : ax_W shM (d + 1) mX12_clause Q 128 [some (ax_r 0), some (ax_i x1), none] [ax_i (if (¬ (¬ rr = (40 : Int32))) then (1 : Int32) else 0)] σ := by
    refine ax_istore_n (q := 129) (i := 2) (lv2 := [some (ax_r 0), some (ax_i x1), some (ax_i (if (¬ (¬ rr = (40 : Int32))) then (1 : Int32) else 0))]) dX12_clause_128 rfl rfl (by decide) rfl rfl ?_
    refine ax_iload_n (q := 130) (i := 2) dX12_clause_129 rfl rfl rfl ?_
    refine ax_if_eqB (tgt := 140) (q := 133) dX12_clause_130 (by decide) rfl (fun c3 => ?_) (fun c3 => ?_)
    · refine ax_aload_n (q := 141) (i := 0) dX12_clause_140 rfl rfl rfl ?_
      refine ax_fg (lv2 := [some (ax_r 0), some (ax_i x1), none]) ⟨rfl, rfl, trivial⟩ ?_
      exact ax_callVcv (q := 144) (As := []) (st := []) dX12_clause_141 rfl lk_X12_158 shM_0 rfl rfl rfl rfl (Nat.le_of_ble_eq_true rfl) (k1 c3)
    · refine ax_aload_n (q := 134) (i := 0) dX12_clause_133 rfl rfl rfl ?_
      exact ax_callVcv (q := 137) (As := []) (st := []) dX12_clause_134 rfl lk_X12_177 shM_0 rfl rfl rfl rfl (Nat.le_of_ble_eq_true rfl) (k2 c3)
  refine ax_icmp_ne (tgt := 127) (q := 123) dX12_clause_120 (by decide) rfl (fun c1 => ?_) (fun c1 => ?_)
  · refine ax_iconst (q := 128) dX12_clause_127 rfl ki_0 ?_
    exact ax_cv (if_neg (fun y => y c1)) K2
  · refine ax_iconst (q := 124) dX12_clause_123 rfl ki_1 ?_
    refine ax_goto (tgt := 128) dX12_clause_124 (by decide) ?_
    exact ax_cv (if_pos c1) K2
set_option maxRecDepth 20000 in
theorem s_X12_clause_137 {d : Nat} (hd : 0 ≤ d) {Q : Option ax_V → ax_S → Prop} (σ : ax_S) (x1 : Int32) (x2 : Int32) (h1 : vp_in x1 700) (h2 : (x2 = 0) → vp_in (σ.1 0 14) 5) (h3 : (x2 = 0) → vp_in x1 700) (k4 : (x2 = 0) → Q none (ax_ui (ax_ui (ax_ui σ 7 (Int32.toNatClampNeg x1) (σ.1 6 (Int32.toNatClampNeg x1))) 8 (Int32.toNatClampNeg x1) (σ.1 4 (Int32.toNatClampNeg (σ.1 0 14)))) 5 (Int32.toNatClampNeg (σ.1 0 14)) ((σ.1 5 (Int32.toNatClampNeg (σ.1 0 14))) + (1 : Int32)))) (h5 : (¬ (x2 = 0)) → (¬ (σ.1 0 4) = (-1 : Int32)) → vp_in (σ.1 0 14) 5) (h6 : (¬ (x2 = 0)) → (¬ (σ.1 0 4) = (-1 : Int32)) → vp_in x1 700) (k7 : (¬ (x2 = 0)) → (¬ (σ.1 0 4) = (-1 : Int32)) → Q none (ax_ui (ax_ui (ax_ui σ 7 (Int32.toNatClampNeg x1) (σ.1 6 (Int32.toNatClampNeg x1))) 8 (Int32.toNatClampNeg x1) (σ.1 4 (Int32.toNatClampNeg (σ.1 0 14)))) 5 (Int32.toNatClampNeg (σ.1 0 14)) ((σ.1 5 (Int32.toNatClampNeg (σ.1 0 14))) + (1 : Int32)))) (k8 : (¬ (x2 = 0)) → (¬ (¬ (σ.1 0 4) = (-1 : Int32))) → ax_Ct shM d mX12_look [ax_r 0] (fun r u => ∃ x : Int32, r = some (ax_i x) ∧ ax_W shM (d + 1) mX12_clause Q 212 [some (ax_r 0), some (ax_i x1), none] (ax_i x :: []) u) (ax_ui σ 7 (Int32.toNatClampNeg x1) (σ.1 6 (Int32.toNatClampNeg x1)))) : ax_W shM (d + 1) mX12_clause Q 137 [some (ax_r 0), some (ax_i x1), some (ax_i x2)] [] σ := by
  refine ax_goto (tgt := 184) dX12_clause_137 (by decide) ?_
  refine ax_aload_n (q := 185) (i := 0) dX12_clause_184 rfl rfl rfl ?_
  refine ax_get (q := 188) (k := 0) (j := 11) (v := ax_r 7) dX12_clause_185 rfl shM_0 rfl rfl rfl (by decide) fl_X12_28 ?_
  refine ax_iload_n (q := 189) (i := 1) dX12_clause_188 rfl rfl rfl ?_
  refine ax_aload_n (q := 190) (i := 0) dX12_clause_189 rfl rfl rfl ?_
  refine ax_get (q := 193) (k := 0) (j := 10) (v := ax_r 6) dX12_clause_190 rfl shM_0 rfl rfl rfl (by decide) fl_X12_25 ?_
  refine ax_iload_n (q := 194) (i := 1) dX12_clause_193 rfl rfl rfl ?_
  refine ax_iald (q := 195) (a := (Int32.toNatClampNeg x1)) (v := (σ.1 6 (Int32.toNatClampNeg x1))) dX12_clause_194 rfl shM_6 h1 rfl rfl ?_
  refine ax_iast (q := 196) (a := (Int32.toNatClampNeg x1)) dX12_clause_195 rfl shM_7 h1 rfl ?_
  refine ax_iload_n (q := 197) (i := 2) dX12_clause_196 rfl rfl rfl ?_
  refine ax_if_eq (tgt := 251) (q := 200) dX12_clause_197 (by decide) rfl (fun c1 => ?_) (fun c1 => ?_)
  · refine ax_aload_n (q := 252) (i := 0) dX12_clause_251 rfl rfl rfl ?_
    refine ax_get (q := 255) (k := 0) (j := 12) (v := ax_r 8) dX12_clause_252 rfl shM_0 rfl rfl rfl (by decide) fl_X12_31 ?_
    refine ax_iload_n (q := 256) (i := 1) dX12_clause_255 rfl rfl rfl ?_
    refine ax_aload_n (q := 257) (i := 0) dX12_clause_256 rfl rfl rfl ?_
    refine ax_get (q := 260) (k := 0) (j := 8) (v := ax_r 4) dX12_clause_257 rfl shM_0 rfl rfl rfl (by decide) fl_X12_19 ?_
    refine ax_aload_n (q := 261) (i := 0) dX12_clause_260 rfl rfl rfl ?_
    refine ax_get (q := 264) (k := 0) (j := 14) (v := ax_i (σ.1 0 14)) dX12_clause_261 rfl shM_0 rfl rfl rfl (by decide) fl_X12_128 ?_
    refine ax_iald (q := 265) (a := (Int32.toNatClampNeg (σ.1 0 14))) (v := (σ.1 4 (Int32.toNatClampNeg (σ.1 0 14)))) dX12_clause_264 rfl shM_4 (h2 c1) rfl rfl ?_
    refine ax_iast (q := 266) (a := (Int32.toNatClampNeg x1)) dX12_clause_265 rfl shM_8 (h3 c1) rfl ?_
    refine ax_aload_n (q := 267) (i := 0) dX12_clause_266 rfl rfl rfl ?_
    refine ax_get (q := 270) (k := 0) (j := 9) (v := ax_r 5) dX12_clause_267 rfl shM_0 rfl rfl rfl (by decide) fl_X12_22 ?_
    refine ax_aload_n (q := 271) (i := 0) dX12_clause_270 rfl rfl rfl ?_
    refine ax_get (q := 274) (k := 0) (j := 14) (v := ax_i (σ.1 0 14)) dX12_clause_271 rfl shM_0 rfl rfl rfl (by decide) fl_X12_128 ?_
    refine ax_dup2_11 (q := 275) dX12_clause_274 rfl ?_
    refine ax_iald (q := 276) (a := (Int32.toNatClampNeg (σ.1 0 14))) (v := (σ.1 5 (Int32.toNatClampNeg (σ.1 0 14)))) dX12_clause_275 rfl shM_5 (h2 c1) rfl rfl ?_
    refine ax_iconst (q := 277) dX12_clause_276 rfl ki_1 ?_
    refine ax_iadd (q := 278) dX12_clause_277 rfl ?_
    refine ax_iast (q := 279) (a := (Int32.toNatClampNeg (σ.1 0 14))) dX12_clause_278 rfl shM_5 (h2 c1) rfl ?_
    exact ax_vret dX12_clause_279 rfl (k4 c1)
  · refine ax_aload_n (q := 201) (i := 0) dX12_clause_200 rfl rfl rfl ?_
    refine ax_get (q := 204) (k := 0) (j := 4) (v := ax_i (σ.1 0 4)) dX12_clause_201 rfl shM_0 rfl rfl rfl (by decide) fl_X12_125 ?_
    refine ax_iconst (q := 205) dX12_clause_204 rfl ki_m1 ?_
    refine ax_icmp_ne (tgt := 251) (q := 208) dX12_clause_205 (by decide) rfl (fun c2 => ?_) (fun c2 => ?_)
    · refine ax_aload_n (q := 252) (i := 0) dX12_clause_251 rfl rfl rfl ?_
      refine ax_get (q := 255) (k := 0) (j := 12) (v := ax_r 8) dX12_clause_252 rfl shM_0 rfl rfl rfl (by decide) fl_X12_31 ?_
      refine ax_iload_n (q := 256) (i := 1) dX12_clause_255 rfl rfl rfl ?_
      refine ax_aload_n (q := 257) (i := 0) dX12_clause_256 rfl rfl rfl ?_
      refine ax_get (q := 260) (k := 0) (j := 8) (v := ax_r 4) dX12_clause_257 rfl shM_0 rfl rfl rfl (by decide) fl_X12_19 ?_
      refine ax_aload_n (q := 261) (i := 0) dX12_clause_260 rfl rfl rfl ?_
      refine ax_get (q := 264) (k := 0) (j := 14) (v := ax_i (σ.1 0 14)) dX12_clause_261 rfl shM_0 rfl rfl rfl (by decide) fl_X12_128 ?_
      refine ax_iald (q := 265) (a := (Int32.toNatClampNeg (σ.1 0 14))) (v := (σ.1 4 (Int32.toNatClampNeg (σ.1 0 14)))) dX12_clause_264 rfl shM_4 (h5 c1 c2) rfl rfl ?_
      refine ax_iast (q := 266) (a := (Int32.toNatClampNeg x1)) dX12_clause_265 rfl shM_8 (h6 c1 c2) rfl ?_
      refine ax_aload_n (q := 267) (i := 0) dX12_clause_266 rfl rfl rfl ?_
      refine ax_get (q := 270) (k := 0) (j := 9) (v := ax_r 5) dX12_clause_267 rfl shM_0 rfl rfl rfl (by decide) fl_X12_22 ?_
      refine ax_aload_n (q := 271) (i := 0) dX12_clause_270 rfl rfl rfl ?_
      refine ax_get (q := 274) (k := 0) (j := 14) (v := ax_i (σ.1 0 14)) dX12_clause_271 rfl shM_0 rfl rfl rfl (by decide) fl_X12_128 ?_
      refine ax_dup2_11 (q := 275) dX12_clause_274 rfl ?_
      refine ax_iald (q := 276) (a := (Int32.toNatClampNeg (σ.1 0 14))) (v := (σ.1 5 (Int32.toNatClampNeg (σ.1 0 14)))) dX12_clause_275 rfl shM_5 (h5 c1 c2) rfl rfl ?_
      refine ax_iconst (q := 277) dX12_clause_276 rfl ki_1 ?_
      refine ax_iadd (q := 278) dX12_clause_277 rfl ?_
      refine ax_iast (q := 279) (a := (Int32.toNatClampNeg (σ.1 0 14))) dX12_clause_278 rfl shM_5 (h5 c1 c2) rfl ?_
      exact ax_vret dX12_clause_279 rfl (k7 c1 c2)
    · refine ax_aload_n (q := 209) (i := 0) dX12_clause_208 rfl rfl rfl ?_
      refine ax_fg (lv2 := [some (ax_r 0), some (ax_i x1), none]) ⟨rfl, rfl, trivial⟩ ?_
      exact ax_callVci (q := 212) (As := []) (st := []) dX12_clause_209 rfl lk_X12_137 shM_0 rfl rfl rfl rfl (Nat.le_of_ble_eq_true rfl) (k8 c1 c2)
set_option maxRecDepth 20000 in
theorem s_X12_clause_144 {d : Nat} (hd : 0 ≤ d) {Q : Option ax_V → ax_S → Prop} (σ : ax_S) (x1 : Int32) (h1 : (¬ (σ.1 0 4) = (-1 : Int32)) → ((0 : Int32) = 0) → vp_in x1 700) (h2 : (¬ (σ.1 0 4) = (-1 : Int32)) → ((0 : Int32) = 0) → vp_in (σ.1 0 14) 5) (k3 : (¬ (σ.1 0 4) = (-1 : Int32)) → ((0 : Int32) = 0) → Q none (ax_ui (ax_ui (ax_ui σ 7 (Int32.toNatClampNeg x1) (σ.1 6 (Int32.toNatClampNeg x1))) 8 (Int32.toNatClampNeg x1) (σ.1 4 (Int32.toNatClampNeg (σ.1 0 14)))) 5 (Int32.toNatClampNeg (σ.1 0 14)) ((σ.1 5 (Int32.toNatClampNeg (σ.1 0 14))) + (1 : Int32)))) (k4 : (¬ (σ.1 0 4) = (-1 : Int32)) → (¬ ((0 : Int32) = 0)) → ax_Ct shM d mX12_compare [ax_r 0] (fun r u => r = none ∧ ax_W shM (d + 1) mX12_clause Q 176 [some (ax_r 0), some (ax_i x1), some (ax_i (0 : Int32))] [] u) σ) (k5 : (¬ (¬ (σ.1 0 4) = (-1 : Int32))) → ax_Ct shM d mX12_look [ax_r 0] (fun r u => ∃ x : Int32, r = some (ax_i x) ∧ ax_W shM (d + 1) mX12_clause Q 156 [some (ax_r 0), some (ax_i x1), none] (ax_i x :: []) u) σ) : ax_W shM (d + 1) mX12_clause Q 144 [some (ax_r 0), some (ax_i x1), none] [] σ := by
  refine ax_aload_n (q := 145) (i := 0) dX12_clause_144 rfl rfl rfl ?_
  refine ax_get (q := 148) (k := 0) (j := 4) (v := ax_i (σ.1 0 4)) dX12_clause_145 rfl shM_0 rfl rfl rfl (by decide) fl_X12_125 ?_
  refine ax_iconst (q := 149) dX12_clause_148 rfl ki_m1 ?_
  refine ax_icmp_ne (tgt := 166) (q := 152) dX12_clause_149 (by decide) rfl (fun c1 => ?_) (fun c1 => ?_)
  · refine ax_iconst (q := 167) dX12_clause_166 rfl ki_0 ?_
    refine ax_istore_n (q := 168) (i := 2) (lv2 := [some (ax_r 0), some (ax_i x1), some (ax_i (0 : Int32))]) dX12_clause_167 rfl rfl (by decide) rfl rfl ?_
    refine ax_iload_n (q := 169) (i := 2) dX12_clause_168 rfl rfl rfl ?_
    refine ax_if_eq (tgt := 184) (q := 172) dX12_clause_169 (by decide) rfl (fun c2 => ?_) (fun c2 => ?_)
    · refine ax_aload_n (q := 185) (i := 0) dX12_clause_184 rfl rfl rfl ?_
      refine ax_get (q := 188) (k := 0) (j := 11) (v := ax_r 7) dX12_clause_185 rfl shM_0 rfl rfl rfl (by decide) fl_X12_28 ?_
      refine ax_iload_n (q := 189) (i := 1) dX12_clause_188 rfl rfl rfl ?_
      refine ax_aload_n (q := 190) (i := 0) dX12_clause_189 rfl rfl rfl ?_
      refine ax_get (q := 193) (k := 0) (j := 10) (v := ax_r 6) dX12_clause_190 rfl shM_0 rfl rfl rfl (by decide) fl_X12_25 ?_
      refine ax_iload_n (q := 194) (i := 1) dX12_clause_193 rfl rfl rfl ?_
      refine ax_iald (q := 195) (a := (Int32.toNatClampNeg x1)) (v := (σ.1 6 (Int32.toNatClampNeg x1))) dX12_clause_194 rfl shM_6 (h1 c1 c2) rfl rfl ?_
      refine ax_iast (q := 196) (a := (Int32.toNatClampNeg x1)) dX12_clause_195 rfl shM_7 (h1 c1 c2) rfl ?_
      refine ax_iload_n (q := 197) (i := 2) dX12_clause_196 rfl rfl rfl ?_
      refine ax_if_eq (tgt := 251) (q := 200) dX12_clause_197 (by decide) rfl (fun c3 => ?_) (fun c3 => ?_)
      · refine ax_aload_n (q := 252) (i := 0) dX12_clause_251 rfl rfl rfl ?_
        refine ax_get (q := 255) (k := 0) (j := 12) (v := ax_r 8) dX12_clause_252 rfl shM_0 rfl rfl rfl (by decide) fl_X12_31 ?_
        refine ax_iload_n (q := 256) (i := 1) dX12_clause_255 rfl rfl rfl ?_
        refine ax_aload_n (q := 257) (i := 0) dX12_clause_256 rfl rfl rfl ?_
        refine ax_get (q := 260) (k := 0) (j := 8) (v := ax_r 4) dX12_clause_257 rfl shM_0 rfl rfl rfl (by decide) fl_X12_19 ?_
        refine ax_aload_n (q := 261) (i := 0) dX12_clause_260 rfl rfl rfl ?_
        refine ax_get (q := 264) (k := 0) (j := 14) (v := ax_i (σ.1 0 14)) dX12_clause_261 rfl shM_0 rfl rfl rfl (by decide) fl_X12_128 ?_
        refine ax_iald (q := 265) (a := (Int32.toNatClampNeg (σ.1 0 14))) (v := (σ.1 4 (Int32.toNatClampNeg (σ.1 0 14)))) dX12_clause_264 rfl shM_4 (h2 c1 c2) rfl rfl ?_
        refine ax_iast (q := 266) (a := (Int32.toNatClampNeg x1)) dX12_clause_265 rfl shM_8 (h1 c1 c2) rfl ?_
        refine ax_aload_n (q := 267) (i := 0) dX12_clause_266 rfl rfl rfl ?_
        refine ax_get (q := 270) (k := 0) (j := 9) (v := ax_r 5) dX12_clause_267 rfl shM_0 rfl rfl rfl (by decide) fl_X12_22 ?_
        refine ax_aload_n (q := 271) (i := 0) dX12_clause_270 rfl rfl rfl ?_
        refine ax_get (q := 274) (k := 0) (j := 14) (v := ax_i (σ.1 0 14)) dX12_clause_271 rfl shM_0 rfl rfl rfl (by decide) fl_X12_128 ?_
        refine ax_dup2_11 (q := 275) dX12_clause_274 rfl ?_
        refine ax_iald (q := 276) (a := (Int32.toNatClampNeg (σ.1 0 14))) (v := (σ.1 5 (Int32.toNatClampNeg (σ.1 0 14)))) dX12_clause_275 rfl shM_5 (h2 c1 c2) rfl rfl ?_
        refine ax_iconst (q := 277) dX12_clause_276 rfl ki_1 ?_
        refine ax_iadd (q := 278) dX12_clause_277 rfl ?_
        refine ax_iast (q := 279) (a := (Int32.toNatClampNeg (σ.1 0 14))) dX12_clause_278 rfl shM_5 (h2 c1 c2) rfl ?_
        exact ax_vret dX12_clause_279 rfl (k3 c1 c2)
      · exact absurd c2 c3
    · refine ax_aload_n (q := 173) (i := 0) dX12_clause_172 rfl rfl rfl ?_
      exact ax_callVcv (q := 176) (As := []) (st := []) dX12_clause_173 rfl lk_X12_180 shM_0 rfl rfl rfl rfl (Nat.le_of_ble_eq_true rfl) (k4 c1 c2)
  · refine ax_aload_n (q := 153) (i := 0) dX12_clause_152 rfl rfl rfl ?_
    exact ax_callVci (q := 156) (As := []) (st := []) dX12_clause_153 rfl lk_X12_137 shM_0 rfl rfl rfl rfl (Nat.le_of_ble_eq_true rfl) (k5 c1)
set_option maxRecDepth 20000 in
theorem s_X12_clause_62 {d : Nat} (hd : 1 ≤ d) {Q : Option ax_V → ax_S → Prop} (σ : ax_S) (x1 : Int32) (rr : Int32) (h1 : (rr = (58 : Int32)) → ((σ.1 0 4) = (-1 : Int32)) → vp_in (σ.1 0 14) 5) (h2 : (rr = (58 : Int32)) → ((σ.1 0 4) = (-1 : Int32)) → vp_in x1 700) (k3 : (rr = (58 : Int32)) → ((σ.1 0 4) = (-1 : Int32)) → ax_Ct shM d mX12_look [ax_r 0] (fun r u => ∃ x : Int32, r = some (ax_i x) ∧ ax_W shM (d + 1) mX12_clause Q 109 [some (ax_r 0), some (ax_i x1), none] (ax_i x :: []) u) (ax_ui (ax_ui σ 0 3 ((σ.1 0 3) + (1 : Int32))) 6 (Int32.toNatClampNeg x1) (σ.1 4 (Int32.toNatClampNeg (σ.1 0 14))))) (k4 : (rr = (58 : Int32)) → (¬ ((σ.1 0 4) = (-1 : Int32))) → Q none (ax_ui σ 0 3 ((σ.1 0 3) + (1 : Int32)))) (h5 : (¬ (rr = (58 : Int32))) → ((if (¬ (σ.1 0 4) = (-1 : Int32)) then (σ.1 0 4) else (σ.1 0 3)) = (-1 : Int32)) → vp_in (σ.1 0 14) 5) (h6 : (¬ (rr = (58 : Int32))) → ((if (¬ (σ.1 0 4) = (-1 : Int32)) then (σ.1 0 4) else (σ.1 0 3)) = (-1 : Int32)) → vp_in x1 700) (k7 : (¬ (rr = (58 : Int32))) → ((if (¬ (σ.1 0 4) = (-1 : Int32)) then (σ.1 0 4) else (σ.1 0 3)) = (-1 : Int32)) → ax_Ct shM d mX12_look [ax_r 0] (fun r u => ∃ x : Int32, r = some (ax_i x) ∧ ax_W shM (d + 1) mX12_clause Q 109 [some (ax_r 0), some (ax_i x1), none] (ax_i x :: []) u) (ax_ui (ax_ui (ax_ui σ 0 4 (if (¬ (σ.1 0 4) = (-1 : Int32)) then (σ.1 0 4) else (σ.1 0 3))) 0 3 ((σ.1 0 3) + (1 : Int32))) 6 (Int32.toNatClampNeg x1) (σ.1 4 (Int32.toNatClampNeg (σ.1 0 14))))) (k8 : (¬ (rr = (58 : Int32))) → (¬ ((if (¬ (σ.1 0 4) = (-1 : Int32)) then (σ.1 0 4) else (σ.1 0 3)) = (-1 : Int32))) → Q none (ax_ui (ax_ui σ 0 4 (if (¬ (σ.1 0 4) = (-1 : Int32)) then (σ.1 0 4) else (σ.1 0 3))) 0 3 ((σ.1 0 3) + (1 : Int32)))) : ax_W shM (d + 1) mX12_clause Q 62 [some (ax_r 0), some (ax_i x1), none] [ax_i rr] σ := by
  refine ax_bipush (q := 64) dX12_clause_62 rfl kb_58 ?_
  refine ax_icmp_eq (tgt := 71) (q := 67) dX12_clause_64 (by decide) rfl (fun c1 => ?_) (fun c1 => ?_)
  · refine ax_aload_n (q := 72) (i := 0) dX12_clause_71 rfl rfl rfl ?_
    refine ax_dupr (q := 73) dX12_clause_72 rfl ?_
    refine ax_get (q := 76) (k := 0) (j := 3) (v := ax_i (σ.1 0 3)) dX12_clause_73 rfl shM_0 rfl rfl rfl (by decide) fl_X12_118 ?_
    refine ax_iconst (q := 77) dX12_clause_76 rfl ki_1 ?_
    refine ax_iadd (q := 78) dX12_clause_77 rfl ?_
    refine ax_puti (q := 81) (k := 0) (j := 3) dX12_clause_78 rfl shM_0 rfl rfl (by decide) fl_X12_118 rfl rfl rfl rfl ?_
    refine ax_aload_n (q := 82) (i := 0) dX12_clause_81 rfl rfl rfl ?_
    refine ax_get (q := 85) (k := 0) (j := 4) (v := ax_i (σ.1 0 4)) dX12_clause_82 rfl shM_0 rfl rfl rfl (by decide) fl_X12_125 ?_
    refine ax_iconst (q := 86) dX12_clause_85 rfl ki_m1 ?_
    refine ax_icmp_eq (tgt := 90) (q := 89) dX12_clause_86 (by decide) rfl (fun c2 => ?_) (fun c2 => ?_)
    · refine ax_aload_n (q := 91) (i := 0) dX12_clause_90 rfl rfl rfl ?_
      refine ax_get (q := 94) (k := 0) (j := 10) (v := ax_r 6) dX12_clause_91 rfl shM_0 rfl rfl rfl (by decide) fl_X12_25 ?_
      refine ax_iload_n (q := 95) (i := 1) dX12_clause_94 rfl rfl rfl ?_
      refine ax_aload_n (q := 96) (i := 0) dX12_clause_95 rfl rfl rfl ?_
      refine ax_get (q := 99) (k := 0) (j := 8) (v := ax_r 4) dX12_clause_96 rfl shM_0 rfl rfl rfl (by decide) fl_X12_19 ?_
      refine ax_aload_n (q := 100) (i := 0) dX12_clause_99 rfl rfl rfl ?_
      refine ax_get (q := 103) (k := 0) (j := 14) (v := ax_i (σ.1 0 14)) dX12_clause_100 rfl shM_0 rfl rfl rfl (by decide) fl_X12_128 ?_
      refine ax_iald (q := 104) (a := (Int32.toNatClampNeg (σ.1 0 14))) (v := (σ.1 4 (Int32.toNatClampNeg (σ.1 0 14)))) dX12_clause_103 rfl shM_4 (h1 c1 c2) rfl rfl ?_
      refine ax_iast (q := 105) (a := (Int32.toNatClampNeg x1)) dX12_clause_104 rfl shM_6 (h2 c1 c2) rfl ?_
      refine ax_aload_n (q := 106) (i := 0) dX12_clause_105 rfl rfl rfl ?_
      exact ax_callVci (q := 109) (As := []) (st := []) dX12_clause_106 rfl lk_X12_137 shM_0 rfl rfl rfl rfl (Nat.le_of_ble_eq_true rfl) (k3 c1 c2)
    · exact ax_vret dX12_clause_89 rfl (k4 c1 c2)
  · refine ax_aload_n (q := 68) (i := 0) dX12_clause_67 rfl rfl rfl ?_
    refine ax_callVfv (q := 71) (As := []) (st := []) (σ2 := (ax_ui σ 0 4 (if (¬ (σ.1 0 4) = (-1 : Int32)) then (σ.1 0 4) else (σ.1 0 3)))) dX12_clause_68 rfl lk_X12_134 shM_0 rfl rfl rfl rfl (Nat.le_of_ble_eq_true rfl) (f_X12_bad σ   (d := d) (by omega)) ?_
    refine ax_aload_n (q := 72) (i := 0) dX12_clause_71 rfl rfl rfl ?_
    refine ax_dupr (q := 73) dX12_clause_72 rfl ?_
    refine ax_get (q := 76) (k := 0) (j := 3) (v := ax_i (σ.1 0 3)) dX12_clause_73 rfl shM_0 rfl rfl rfl (by decide) fl_X12_118 ?_
    refine ax_iconst (q := 77) dX12_clause_76 rfl ki_1 ?_
    refine ax_iadd (q := 78) dX12_clause_77 rfl ?_
    refine ax_puti (q := 81) (k := 0) (j := 3) dX12_clause_78 rfl shM_0 rfl rfl (by decide) fl_X12_118 rfl rfl rfl rfl ?_
    refine ax_aload_n (q := 82) (i := 0) dX12_clause_81 rfl rfl rfl ?_
    refine ax_get (q := 85) (k := 0) (j := 4) (v := ax_i (if (¬ (σ.1 0 4) = (-1 : Int32)) then (σ.1 0 4) else (σ.1 0 3))) dX12_clause_82 rfl shM_0 rfl rfl rfl (by decide) fl_X12_125 ?_
    refine ax_iconst (q := 86) dX12_clause_85 rfl ki_m1 ?_
    refine ax_icmp_eq (tgt := 90) (q := 89) dX12_clause_86 (by decide) rfl (fun c3 => ?_) (fun c3 => ?_)
    · refine ax_aload_n (q := 91) (i := 0) dX12_clause_90 rfl rfl rfl ?_
      refine ax_get (q := 94) (k := 0) (j := 10) (v := ax_r 6) dX12_clause_91 rfl shM_0 rfl rfl rfl (by decide) fl_X12_25 ?_
      refine ax_iload_n (q := 95) (i := 1) dX12_clause_94 rfl rfl rfl ?_
      refine ax_aload_n (q := 96) (i := 0) dX12_clause_95 rfl rfl rfl ?_
      refine ax_get (q := 99) (k := 0) (j := 8) (v := ax_r 4) dX12_clause_96 rfl shM_0 rfl rfl rfl (by decide) fl_X12_19 ?_
      refine ax_aload_n (q := 100) (i := 0) dX12_clause_99 rfl rfl rfl ?_
      refine ax_get (q := 103) (k := 0) (j := 14) (v := ax_i (σ.1 0 14)) dX12_clause_100 rfl shM_0 rfl rfl rfl (by decide) fl_X12_128 ?_
      refine ax_iald (q := 104) (a := (Int32.toNatClampNeg (σ.1 0 14))) (v := (σ.1 4 (Int32.toNatClampNeg (σ.1 0 14)))) dX12_clause_103 rfl shM_4 (h5 c1 c3) rfl rfl ?_
      refine ax_iast (q := 105) (a := (Int32.toNatClampNeg x1)) dX12_clause_104 rfl shM_6 (h6 c1 c3) rfl ?_
      refine ax_aload_n (q := 106) (i := 0) dX12_clause_105 rfl rfl rfl ?_
      exact ax_callVci (q := 109) (As := []) (st := []) dX12_clause_106 rfl lk_X12_137 shM_0 rfl rfl rfl rfl (Nat.le_of_ble_eq_true rfl) (k7 c1 c3)
    · exact ax_vret dX12_clause_89 rfl (k8 c1 c3)
set_option maxRecDepth 20000 in
theorem s_X12_clause_212 {d : Nat} (hd : 1 ≤ d) {Q : Option ax_V → ax_S → Prop} (σ : ax_S) (x1 : Int32) (rr : Int32) (h1 : (rr = (63 : Int32)) → vp_in (σ.1 0 14) 5) (h2 : (rr = (63 : Int32)) → vp_in x1 700) (k3 : (rr = (63 : Int32)) → ax_Ct shM d mX12_sum [ax_r 0] (fun r u => r = none ∧ ax_W shM (d + 1) mX12_clause Q 251 [some (ax_r 0), some (ax_i x1), none] [] u) (ax_ui (ax_ui σ 0 3 ((σ.1 0 3) + (1 : Int32))) 7 (Int32.toNatClampNeg x1) (σ.1 4 (Int32.toNatClampNeg (σ.1 0 14))))) (k4 : (¬ (rr = (63 : Int32))) → Q none (ax_ui σ 0 4 (if (¬ (σ.1 0 4) = (-1 : Int32)) then (σ.1 0 4) else (σ.1 0 3)))) : ax_W shM (d + 1) mX12_clause Q 212 [some (ax_r 0), some (ax_i x1), none] [ax_i rr] σ := by
  refine ax_bipush (q := 214) dX12_clause_212 rfl kb_63 ?_
  refine ax_icmp_eq (tgt := 222) (q := 217) dX12_clause_214 (by decide) rfl (fun c1 => ?_) (fun c1 => ?_)
  · refine ax_aload_n (q := 223) (i := 0) dX12_clause_222 rfl rfl rfl ?_
    refine ax_dupr (q := 224) dX12_clause_223 rfl ?_
    refine ax_get (q := 227) (k := 0) (j := 3) (v := ax_i (σ.1 0 3)) dX12_clause_224 rfl shM_0 rfl rfl rfl (by decide) fl_X12_118 ?_
    refine ax_iconst (q := 228) dX12_clause_227 rfl ki_1 ?_
    refine ax_iadd (q := 229) dX12_clause_228 rfl ?_
    refine ax_puti (q := 232) (k := 0) (j := 3) dX12_clause_229 rfl shM_0 rfl rfl (by decide) fl_X12_118 rfl rfl rfl rfl ?_
    refine ax_aload_n (q := 233) (i := 0) dX12_clause_232 rfl rfl rfl ?_
    refine ax_get (q := 236) (k := 0) (j := 11) (v := ax_r 7) dX12_clause_233 rfl shM_0 rfl rfl rfl (by decide) fl_X12_28 ?_
    refine ax_iload_n (q := 237) (i := 1) dX12_clause_236 rfl rfl rfl ?_
    refine ax_aload_n (q := 238) (i := 0) dX12_clause_237 rfl rfl rfl ?_
    refine ax_get (q := 241) (k := 0) (j := 8) (v := ax_r 4) dX12_clause_238 rfl shM_0 rfl rfl rfl (by decide) fl_X12_19 ?_
    refine ax_aload_n (q := 242) (i := 0) dX12_clause_241 rfl rfl rfl ?_
    refine ax_get (q := 245) (k := 0) (j := 14) (v := ax_i (σ.1 0 14)) dX12_clause_242 rfl shM_0 rfl rfl rfl (by decide) fl_X12_128 ?_
    refine ax_iald (q := 246) (a := (Int32.toNatClampNeg (σ.1 0 14))) (v := (σ.1 4 (Int32.toNatClampNeg (σ.1 0 14)))) dX12_clause_245 rfl shM_4 (h1 c1) rfl rfl ?_
    refine ax_iast (q := 247) (a := (Int32.toNatClampNeg x1)) dX12_clause_246 rfl shM_7 (h2 c1) rfl ?_
    refine ax_aload_n (q := 248) (i := 0) dX12_clause_247 rfl rfl rfl ?_
    exact ax_callVcv (q := 251) (As := []) (st := []) dX12_clause_248 rfl lk_X12_158 shM_0 rfl rfl rfl rfl (Nat.le_of_ble_eq_true rfl) (k3 c1)
  · refine ax_aload_n (q := 218) (i := 0) dX12_clause_217 rfl rfl rfl ?_
    refine ax_callVfv (q := 221) (As := []) (st := []) (σ2 := (ax_ui σ 0 4 (if (¬ (σ.1 0 4) = (-1 : Int32)) then (σ.1 0 4) else (σ.1 0 3)))) dX12_clause_218 rfl lk_X12_134 shM_0 rfl rfl rfl rfl (Nat.le_of_ble_eq_true rfl) (f_X12_bad σ   (d := d) (by omega)) ?_
    exact ax_vret dX12_clause_221 rfl (k4 c1)
set_option maxRecDepth 20000 in
theorem s_X12_clause_156 {d : Nat} (hd : 1 ≤ d) {Q : Option ax_V → ax_S → Prop} (σ : ax_S) (x1 : Int32) (rr : Int32) (h1 : (¬ ((rr = (61 : Int32)) ∨ ((rr = (60 : Int32)) ∨ (¬ (¬ rr = (62 : Int32)))))) → vp_in x1 700) (h2 : (¬ ((rr = (61 : Int32)) ∨ ((rr = (60 : Int32)) ∨ (¬ (¬ rr = (62 : Int32)))))) → vp_in (σ.1 0 14) 5) (k3 : (¬ ((rr = (61 : Int32)) ∨ ((rr = (60 : Int32)) ∨ (¬ (¬ rr = (62 : Int32)))))) → Q none (ax_ui (ax_ui (ax_ui σ 7 (Int32.toNatClampNeg x1) (σ.1 6 (Int32.toNatClampNeg x1))) 8 (Int32.toNatClampNeg x1) (σ.1 4 (Int32.toNatClampNeg (σ.1 0 14)))) 5 (Int32.toNatClampNeg (σ.1 0 14)) ((σ.1 5 (Int32.toNatClampNeg (σ.1 0 14))) + (1 : Int32)))) (k4 : ((rr = (61 : Int32)) ∨ ((rr = (60 : Int32)) ∨ (¬ (¬ rr = (62 : Int32))))) → ax_Ct shM d mX12_compare [ax_r 0] (fun r u => r = none ∧ ax_W shM (d + 1) mX12_clause Q 176 [some (ax_r 0), some (ax_i x1), some (ax_i (if ((rr = (61 : Int32)) ∨ ((rr = (60 : Int32)) ∨ (¬ (¬ rr = (62 : Int32))))) then (1 : Int32) else 0))] [] u) σ) : ax_W shM (d + 1) mX12_clause Q 156 [some (ax_r 0), some (ax_i x1), none] [ax_i rr] σ := by
  refine ax_callSfi (q := 159) (As := [ax_i rr]) (st := []) (x := (if ((rr = (61 : Int32)) ∨ ((rr = (60 : Int32)) ∨ (¬ (¬ rr = (62 : Int32))))) then (1 : Int32) else 0)) (σ2 := σ) dX12_clause_156 rfl lk_X12_171 rfl rfl (Nat.le_of_ble_eq_true rfl) (f_X12_isSign (sh := shM) σ rr  (d := d) (by omega)) ?_
  have K2 : ax_W shM (d + 1) mX12_clause Q 167 [some (ax_r 0), some (ax_i x1), none] [ax_i (if ((rr = (61 : Int32)) ∨ ((rr = (60 : Int32)) ∨ (¬ (¬ rr = (62 : Int32))))) then (1 : Int32) else 0)] σ := by
    refine ax_istore_n (q := 168) (i := 2) (lv2 := [some (ax_r 0), some (ax_i x1), some (ax_i (if ((rr = (61 : Int32)) ∨ ((rr = (60 : Int32)) ∨ (¬ (¬ rr = (62 : Int32))))) then (1 : Int32) else 0))]) dX12_clause_167 rfl rfl (by decide) rfl rfl ?_
    refine ax_iload_n (q := 169) (i := 2) dX12_clause_168 rfl rfl rfl ?_
    refine ax_if_eqB (tgt := 184) (q := 172) dX12_clause_169 (by decide) rfl (fun c3 => ?_) (fun c3 => ?_)
    · refine ax_aload_n (q := 185) (i := 0) dX12_clause_184 rfl rfl rfl ?_
      refine ax_get (q := 188) (k := 0) (j := 11) (v := ax_r 7) dX12_clause_185 rfl shM_0 rfl rfl rfl (by decide) fl_X12_28 ?_
      refine ax_iload_n (q := 189) (i := 1) dX12_clause_188 rfl rfl rfl ?_
      refine ax_aload_n (q := 190) (i := 0) dX12_clause_189 rfl rfl rfl ?_
      refine ax_get (q := 193) (k := 0) (j := 10) (v := ax_r 6) dX12_clause_190 rfl shM_0 rfl rfl rfl (by decide) fl_X12_25 ?_
      refine ax_iload_n (q := 194) (i := 1) dX12_clause_193 rfl rfl rfl ?_
      refine ax_iald (q := 195) (a := (Int32.toNatClampNeg x1)) (v := (σ.1 6 (Int32.toNatClampNeg x1))) dX12_clause_194 rfl shM_6 (h1 c3) rfl rfl ?_
      refine ax_iast (q := 196) (a := (Int32.toNatClampNeg x1)) dX12_clause_195 rfl shM_7 (h1 c3) rfl ?_
      refine ax_iload_n (q := 197) (i := 2) dX12_clause_196 rfl rfl rfl ?_
      refine ax_if_eqB (tgt := 251) (q := 200) dX12_clause_197 (by decide) rfl (fun c4 => ?_) (fun c4 => ?_)
      · refine ax_aload_n (q := 252) (i := 0) dX12_clause_251 rfl rfl rfl ?_
        refine ax_get (q := 255) (k := 0) (j := 12) (v := ax_r 8) dX12_clause_252 rfl shM_0 rfl rfl rfl (by decide) fl_X12_31 ?_
        refine ax_iload_n (q := 256) (i := 1) dX12_clause_255 rfl rfl rfl ?_
        refine ax_aload_n (q := 257) (i := 0) dX12_clause_256 rfl rfl rfl ?_
        refine ax_get (q := 260) (k := 0) (j := 8) (v := ax_r 4) dX12_clause_257 rfl shM_0 rfl rfl rfl (by decide) fl_X12_19 ?_
        refine ax_aload_n (q := 261) (i := 0) dX12_clause_260 rfl rfl rfl ?_
        refine ax_get (q := 264) (k := 0) (j := 14) (v := ax_i (σ.1 0 14)) dX12_clause_261 rfl shM_0 rfl rfl rfl (by decide) fl_X12_128 ?_
        refine ax_iald (q := 265) (a := (Int32.toNatClampNeg (σ.1 0 14))) (v := (σ.1 4 (Int32.toNatClampNeg (σ.1 0 14)))) dX12_clause_264 rfl shM_4 (h2 c3) rfl rfl ?_
        refine ax_iast (q := 266) (a := (Int32.toNatClampNeg x1)) dX12_clause_265 rfl shM_8 (h1 c3) rfl ?_
        refine ax_aload_n (q := 267) (i := 0) dX12_clause_266 rfl rfl rfl ?_
        refine ax_get (q := 270) (k := 0) (j := 9) (v := ax_r 5) dX12_clause_267 rfl shM_0 rfl rfl rfl (by decide) fl_X12_22 ?_
        refine ax_aload_n (q := 271) (i := 0) dX12_clause_270 rfl rfl rfl ?_
        refine ax_get (q := 274) (k := 0) (j := 14) (v := ax_i (σ.1 0 14)) dX12_clause_271 rfl shM_0 rfl rfl rfl (by decide) fl_X12_128 ?_
        refine ax_dup2_11 (q := 275) dX12_clause_274 rfl ?_
        refine ax_iald (q := 276) (a := (Int32.toNatClampNeg (σ.1 0 14))) (v := (σ.1 5 (Int32.toNatClampNeg (σ.1 0 14)))) dX12_clause_275 rfl shM_5 (h2 c3) rfl rfl ?_
        refine ax_iconst (q := 277) dX12_clause_276 rfl ki_1 ?_
        refine ax_iadd (q := 278) dX12_clause_277 rfl ?_
        refine ax_iast (q := 279) (a := (Int32.toNatClampNeg (σ.1 0 14))) dX12_clause_278 rfl shM_5 (h2 c3) rfl ?_
        exact ax_vret dX12_clause_279 rfl (k3 c3)
      · exact absurd c4 c3
    · refine ax_aload_n (q := 173) (i := 0) dX12_clause_172 rfl rfl rfl ?_
      exact ax_callVcv (q := 176) (As := []) (st := []) dX12_clause_173 rfl lk_X12_180 shM_0 rfl rfl rfl rfl (Nat.le_of_ble_eq_true rfl) (k4 c3)
  refine ax_if_eqB (tgt := 166) (q := 162) dX12_clause_159 (by decide) rfl (fun c1 => ?_) (fun c1 => ?_)
  · refine ax_iconst (q := 167) dX12_clause_166 rfl ki_0 ?_
    exact ax_cv (if_neg c1) K2
  · refine ax_iconst (q := 163) dX12_clause_162 rfl ki_1 ?_
    refine ax_goto (tgt := 167) dX12_clause_163 (by decide) ?_
    exact ax_cv (if_pos c1) K2
set_option maxRecDepth 20000 in
theorem s_X12_clause_176 {d : Nat} (hd : 0 ≤ d) {Q : Option ax_V → ax_S → Prop} (σ : ax_S) (x1 : Int32) (x2 : Int32) (k1 : ax_Ct shM d mX12_goOnAnd [ax_r 0] (fun r u => r = none ∧ ax_W shM (d + 1) mX12_clause Q 180 [some (ax_r 0), some (ax_i x1), some (ax_i x2)] [] u) σ) : ax_W shM (d + 1) mX12_clause Q 176 [some (ax_r 0), some (ax_i x1), some (ax_i x2)] [] σ := by
  refine ax_aload_n (q := 177) (i := 0) dX12_clause_176 rfl rfl rfl ?_
  exact ax_callVcv (q := 180) (As := []) (st := []) dX12_clause_177 rfl lk_X12_183 shM_0 rfl rfl rfl rfl (Nat.le_of_ble_eq_true rfl) k1
set_option maxRecDepth 20000 in
theorem s_X12_clause_251 {d : Nat} (hd : 0 ≤ d) {Q : Option ax_V → ax_S → Prop} (σ : ax_S) (x1 : Int32) (h1 : vp_in (σ.1 0 14) 5) (h2 : vp_in x1 700) (k3 : Q none (ax_ui (ax_ui σ 8 (Int32.toNatClampNeg x1) (σ.1 4 (Int32.toNatClampNeg (σ.1 0 14)))) 5 (Int32.toNatClampNeg (σ.1 0 14)) ((σ.1 5 (Int32.toNatClampNeg (σ.1 0 14))) + (1 : Int32)))) : ax_W shM (d + 1) mX12_clause Q 251 [some (ax_r 0), some (ax_i x1), none] [] σ := by
  refine ax_aload_n (q := 252) (i := 0) dX12_clause_251 rfl rfl rfl ?_
  refine ax_get (q := 255) (k := 0) (j := 12) (v := ax_r 8) dX12_clause_252 rfl shM_0 rfl rfl rfl (by decide) fl_X12_31 ?_
  refine ax_iload_n (q := 256) (i := 1) dX12_clause_255 rfl rfl rfl ?_
  refine ax_aload_n (q := 257) (i := 0) dX12_clause_256 rfl rfl rfl ?_
  refine ax_get (q := 260) (k := 0) (j := 8) (v := ax_r 4) dX12_clause_257 rfl shM_0 rfl rfl rfl (by decide) fl_X12_19 ?_
  refine ax_aload_n (q := 261) (i := 0) dX12_clause_260 rfl rfl rfl ?_
  refine ax_get (q := 264) (k := 0) (j := 14) (v := ax_i (σ.1 0 14)) dX12_clause_261 rfl shM_0 rfl rfl rfl (by decide) fl_X12_128 ?_
  refine ax_iald (q := 265) (a := (Int32.toNatClampNeg (σ.1 0 14))) (v := (σ.1 4 (Int32.toNatClampNeg (σ.1 0 14)))) dX12_clause_264 rfl shM_4 h1 rfl rfl ?_
  refine ax_iast (q := 266) (a := (Int32.toNatClampNeg x1)) dX12_clause_265 rfl shM_8 h2 rfl ?_
  refine ax_aload_n (q := 267) (i := 0) dX12_clause_266 rfl rfl rfl ?_
  refine ax_get (q := 270) (k := 0) (j := 9) (v := ax_r 5) dX12_clause_267 rfl shM_0 rfl rfl rfl (by decide) fl_X12_22 ?_
  refine ax_aload_n (q := 271) (i := 0) dX12_clause_270 rfl rfl rfl ?_
  refine ax_get (q := 274) (k := 0) (j := 14) (v := ax_i (σ.1 0 14)) dX12_clause_271 rfl shM_0 rfl rfl rfl (by decide) fl_X12_128 ?_
  refine ax_dup2_11 (q := 275) dX12_clause_274 rfl ?_
  refine ax_iald (q := 276) (a := (Int32.toNatClampNeg (σ.1 0 14))) (v := (σ.1 5 (Int32.toNatClampNeg (σ.1 0 14)))) dX12_clause_275 rfl shM_5 h1 rfl rfl ?_
  refine ax_iconst (q := 277) dX12_clause_276 rfl ki_1 ?_
  refine ax_iadd (q := 278) dX12_clause_277 rfl ?_
  refine ax_iast (q := 279) (a := (Int32.toNatClampNeg (σ.1 0 14))) dX12_clause_278 rfl shM_5 h1 rfl ?_
  exact ax_vret dX12_clause_279 rfl k3
set_option maxRecDepth 20000 in
theorem s_X12_clause_180 {d : Nat} (hd : 0 ≤ d) {Q : Option ax_V → ax_S → Prop} (σ : ax_S) (x1 : Int32) (x2 : Int32) (k1 : ax_Ct shM d mX12_goOnOr [ax_r 0] (fun r u => r = none ∧ ax_W shM (d + 1) mX12_clause Q 184 [some (ax_r 0), some (ax_i x1), some (ax_i x2)] [] u) σ) : ax_W shM (d + 1) mX12_clause Q 180 [some (ax_r 0), some (ax_i x1), some (ax_i x2)] [] σ := by
  refine ax_aload_n (q := 181) (i := 0) dX12_clause_180 rfl rfl rfl ?_
  exact ax_callVcv (q := 184) (As := []) (st := []) dX12_clause_181 rfl lk_X12_186 shM_0 rfl rfl rfl rfl (Nat.le_of_ble_eq_true rfl) k1
set_option maxRecDepth 20000 in
theorem s_X12_clause_184 {d : Nat} (hd : 0 ≤ d) {Q : Option ax_V → ax_S → Prop} (σ : ax_S) (x1 : Int32) (x2 : Int32) (h1 : vp_in x1 700) (h2 : (x2 = 0) → vp_in (σ.1 0 14) 5) (h3 : (x2 = 0) → vp_in x1 700) (k4 : (x2 = 0) → Q none (ax_ui (ax_ui (ax_ui σ 7 (Int32.toNatClampNeg x1) (σ.1 6 (Int32.toNatClampNeg x1))) 8 (Int32.toNatClampNeg x1) (σ.1 4 (Int32.toNatClampNeg (σ.1 0 14)))) 5 (Int32.toNatClampNeg (σ.1 0 14)) ((σ.1 5 (Int32.toNatClampNeg (σ.1 0 14))) + (1 : Int32)))) (h5 : (¬ (x2 = 0)) → (¬ (σ.1 0 4) = (-1 : Int32)) → vp_in (σ.1 0 14) 5) (h6 : (¬ (x2 = 0)) → (¬ (σ.1 0 4) = (-1 : Int32)) → vp_in x1 700) (k7 : (¬ (x2 = 0)) → (¬ (σ.1 0 4) = (-1 : Int32)) → Q none (ax_ui (ax_ui (ax_ui σ 7 (Int32.toNatClampNeg x1) (σ.1 6 (Int32.toNatClampNeg x1))) 8 (Int32.toNatClampNeg x1) (σ.1 4 (Int32.toNatClampNeg (σ.1 0 14)))) 5 (Int32.toNatClampNeg (σ.1 0 14)) ((σ.1 5 (Int32.toNatClampNeg (σ.1 0 14))) + (1 : Int32)))) (k8 : (¬ (x2 = 0)) → (¬ (¬ (σ.1 0 4) = (-1 : Int32))) → ax_Ct shM d mX12_look [ax_r 0] (fun r u => ∃ x : Int32, r = some (ax_i x) ∧ ax_W shM (d + 1) mX12_clause Q 212 [some (ax_r 0), some (ax_i x1), none] (ax_i x :: []) u) (ax_ui σ 7 (Int32.toNatClampNeg x1) (σ.1 6 (Int32.toNatClampNeg x1)))) : ax_W shM (d + 1) mX12_clause Q 184 [some (ax_r 0), some (ax_i x1), some (ax_i x2)] [] σ := by
  refine ax_aload_n (q := 185) (i := 0) dX12_clause_184 rfl rfl rfl ?_
  refine ax_get (q := 188) (k := 0) (j := 11) (v := ax_r 7) dX12_clause_185 rfl shM_0 rfl rfl rfl (by decide) fl_X12_28 ?_
  refine ax_iload_n (q := 189) (i := 1) dX12_clause_188 rfl rfl rfl ?_
  refine ax_aload_n (q := 190) (i := 0) dX12_clause_189 rfl rfl rfl ?_
  refine ax_get (q := 193) (k := 0) (j := 10) (v := ax_r 6) dX12_clause_190 rfl shM_0 rfl rfl rfl (by decide) fl_X12_25 ?_
  refine ax_iload_n (q := 194) (i := 1) dX12_clause_193 rfl rfl rfl ?_
  refine ax_iald (q := 195) (a := (Int32.toNatClampNeg x1)) (v := (σ.1 6 (Int32.toNatClampNeg x1))) dX12_clause_194 rfl shM_6 h1 rfl rfl ?_
  refine ax_iast (q := 196) (a := (Int32.toNatClampNeg x1)) dX12_clause_195 rfl shM_7 h1 rfl ?_
  refine ax_iload_n (q := 197) (i := 2) dX12_clause_196 rfl rfl rfl ?_
  refine ax_if_eq (tgt := 251) (q := 200) dX12_clause_197 (by decide) rfl (fun c1 => ?_) (fun c1 => ?_)
  · refine ax_aload_n (q := 252) (i := 0) dX12_clause_251 rfl rfl rfl ?_
    refine ax_get (q := 255) (k := 0) (j := 12) (v := ax_r 8) dX12_clause_252 rfl shM_0 rfl rfl rfl (by decide) fl_X12_31 ?_
    refine ax_iload_n (q := 256) (i := 1) dX12_clause_255 rfl rfl rfl ?_
    refine ax_aload_n (q := 257) (i := 0) dX12_clause_256 rfl rfl rfl ?_
    refine ax_get (q := 260) (k := 0) (j := 8) (v := ax_r 4) dX12_clause_257 rfl shM_0 rfl rfl rfl (by decide) fl_X12_19 ?_
    refine ax_aload_n (q := 261) (i := 0) dX12_clause_260 rfl rfl rfl ?_
    refine ax_get (q := 264) (k := 0) (j := 14) (v := ax_i (σ.1 0 14)) dX12_clause_261 rfl shM_0 rfl rfl rfl (by decide) fl_X12_128 ?_
    refine ax_iald (q := 265) (a := (Int32.toNatClampNeg (σ.1 0 14))) (v := (σ.1 4 (Int32.toNatClampNeg (σ.1 0 14)))) dX12_clause_264 rfl shM_4 (h2 c1) rfl rfl ?_
    refine ax_iast (q := 266) (a := (Int32.toNatClampNeg x1)) dX12_clause_265 rfl shM_8 (h3 c1) rfl ?_
    refine ax_aload_n (q := 267) (i := 0) dX12_clause_266 rfl rfl rfl ?_
    refine ax_get (q := 270) (k := 0) (j := 9) (v := ax_r 5) dX12_clause_267 rfl shM_0 rfl rfl rfl (by decide) fl_X12_22 ?_
    refine ax_aload_n (q := 271) (i := 0) dX12_clause_270 rfl rfl rfl ?_
    refine ax_get (q := 274) (k := 0) (j := 14) (v := ax_i (σ.1 0 14)) dX12_clause_271 rfl shM_0 rfl rfl rfl (by decide) fl_X12_128 ?_
    refine ax_dup2_11 (q := 275) dX12_clause_274 rfl ?_
    refine ax_iald (q := 276) (a := (Int32.toNatClampNeg (σ.1 0 14))) (v := (σ.1 5 (Int32.toNatClampNeg (σ.1 0 14)))) dX12_clause_275 rfl shM_5 (h2 c1) rfl rfl ?_
    refine ax_iconst (q := 277) dX12_clause_276 rfl ki_1 ?_
    refine ax_iadd (q := 278) dX12_clause_277 rfl ?_
    refine ax_iast (q := 279) (a := (Int32.toNatClampNeg (σ.1 0 14))) dX12_clause_278 rfl shM_5 (h2 c1) rfl ?_
    exact ax_vret dX12_clause_279 rfl (k4 c1)
  · refine ax_aload_n (q := 201) (i := 0) dX12_clause_200 rfl rfl rfl ?_
    refine ax_get (q := 204) (k := 0) (j := 4) (v := ax_i (σ.1 0 4)) dX12_clause_201 rfl shM_0 rfl rfl rfl (by decide) fl_X12_125 ?_
    refine ax_iconst (q := 205) dX12_clause_204 rfl ki_m1 ?_
    refine ax_icmp_ne (tgt := 251) (q := 208) dX12_clause_205 (by decide) rfl (fun c2 => ?_) (fun c2 => ?_)
    · refine ax_aload_n (q := 252) (i := 0) dX12_clause_251 rfl rfl rfl ?_
      refine ax_get (q := 255) (k := 0) (j := 12) (v := ax_r 8) dX12_clause_252 rfl shM_0 rfl rfl rfl (by decide) fl_X12_31 ?_
      refine ax_iload_n (q := 256) (i := 1) dX12_clause_255 rfl rfl rfl ?_
      refine ax_aload_n (q := 257) (i := 0) dX12_clause_256 rfl rfl rfl ?_
      refine ax_get (q := 260) (k := 0) (j := 8) (v := ax_r 4) dX12_clause_257 rfl shM_0 rfl rfl rfl (by decide) fl_X12_19 ?_
      refine ax_aload_n (q := 261) (i := 0) dX12_clause_260 rfl rfl rfl ?_
      refine ax_get (q := 264) (k := 0) (j := 14) (v := ax_i (σ.1 0 14)) dX12_clause_261 rfl shM_0 rfl rfl rfl (by decide) fl_X12_128 ?_
      refine ax_iald (q := 265) (a := (Int32.toNatClampNeg (σ.1 0 14))) (v := (σ.1 4 (Int32.toNatClampNeg (σ.1 0 14)))) dX12_clause_264 rfl shM_4 (h5 c1 c2) rfl rfl ?_
      refine ax_iast (q := 266) (a := (Int32.toNatClampNeg x1)) dX12_clause_265 rfl shM_8 (h6 c1 c2) rfl ?_
      refine ax_aload_n (q := 267) (i := 0) dX12_clause_266 rfl rfl rfl ?_
      refine ax_get (q := 270) (k := 0) (j := 9) (v := ax_r 5) dX12_clause_267 rfl shM_0 rfl rfl rfl (by decide) fl_X12_22 ?_
      refine ax_aload_n (q := 271) (i := 0) dX12_clause_270 rfl rfl rfl ?_
      refine ax_get (q := 274) (k := 0) (j := 14) (v := ax_i (σ.1 0 14)) dX12_clause_271 rfl shM_0 rfl rfl rfl (by decide) fl_X12_128 ?_
      refine ax_dup2_11 (q := 275) dX12_clause_274 rfl ?_
      refine ax_iald (q := 276) (a := (Int32.toNatClampNeg (σ.1 0 14))) (v := (σ.1 5 (Int32.toNatClampNeg (σ.1 0 14)))) dX12_clause_275 rfl shM_5 (h5 c1 c2) rfl rfl ?_
      refine ax_iconst (q := 277) dX12_clause_276 rfl ki_1 ?_
      refine ax_iadd (q := 278) dX12_clause_277 rfl ?_
      refine ax_iast (q := 279) (a := (Int32.toNatClampNeg (σ.1 0 14))) dX12_clause_278 rfl shM_5 (h5 c1 c2) rfl ?_
      exact ax_vret dX12_clause_279 rfl (k7 c1 c2)
    · refine ax_aload_n (q := 209) (i := 0) dX12_clause_208 rfl rfl rfl ?_
      refine ax_fg (lv2 := [some (ax_r 0), some (ax_i x1), none]) ⟨rfl, rfl, trivial⟩ ?_
      exact ax_callVci (q := 212) (As := []) (st := []) dX12_clause_209 rfl lk_X12_137 shM_0 rfl rfl rfl rfl (Nat.le_of_ble_eq_true rfl) (k8 c1 c2)
set_option maxRecDepth 20000 in
theorem f_X12_open (σ : ax_S) (a0 : Int32) (h1 : vp_in a0 5) {d : Nat} (hd : 1 ≤ d) : ax_Ct shM d mX12_open [ax_r 0, ax_i a0] (fun r u => r = none ∧ u = (ax_ui (ax_ui (ax_ui (ax_ui (ax_ui (ax_ui σ 0 14 a0) 0 3 (0 : Int32)) 0 4 (-1 : Int32)) 0 5 (0 : Int32)) 4 (Int32.toNatClampNeg a0) (0 : Int32)) 5 (Int32.toNatClampNeg a0) (0 : Int32))) σ := by
  obtain ⟨d, rfl⟩ : ∃ e, d = e + 1 := ⟨d - 1, by omega⟩
  refine ax_Ct.of (lv := [some (ax_r 0), some (ax_i a0)]) (by decide +kernel) (fun ad => Nat.le_of_ble_eq_true rfl) (fun ad => rfl) ?_
  refine ax_aload_n (q := 1) (i := 0) dX12_open_0 rfl rfl rfl ?_
  refine ax_iload_n (q := 2) (i := 1) dX12_open_1 rfl rfl rfl ?_
  refine ax_puti (q := 5) (k := 0) (j := 14) dX12_open_2 rfl shM_0 rfl rfl (by decide) fl_X12_128 rfl rfl rfl rfl ?_
  refine ax_aload_n (q := 6) (i := 0) dX12_open_5 rfl rfl rfl ?_
  refine ax_iconst (q := 7) dX12_open_6 rfl ki_0 ?_
  refine ax_puti (q := 10) (k := 0) (j := 3) dX12_open_7 rfl shM_0 rfl rfl (by decide) fl_X12_118 rfl rfl rfl rfl ?_
  refine ax_aload_n (q := 11) (i := 0) dX12_open_10 rfl rfl rfl ?_
  refine ax_iconst (q := 12) dX12_open_11 rfl ki_m1 ?_
  refine ax_puti (q := 15) (k := 0) (j := 4) dX12_open_12 rfl shM_0 rfl rfl (by decide) fl_X12_125 rfl rfl rfl rfl ?_
  refine ax_aload_n (q := 16) (i := 0) dX12_open_15 rfl rfl rfl ?_
  refine ax_iconst (q := 17) dX12_open_16 rfl ki_0 ?_
  refine ax_puti (q := 20) (k := 0) (j := 5) dX12_open_17 rfl shM_0 rfl rfl (by decide) fl_X12_131 rfl rfl rfl rfl ?_
  refine ax_aload_n (q := 21) (i := 0) dX12_open_20 rfl rfl rfl ?_
  refine ax_get (q := 24) (k := 0) (j := 8) (v := ax_r 4) dX12_open_21 rfl shM_0 rfl rfl rfl (by decide) fl_X12_19 ?_
  refine ax_iload_n (q := 25) (i := 1) dX12_open_24 rfl rfl rfl ?_
  refine ax_iconst (q := 26) dX12_open_25 rfl ki_0 ?_
  refine ax_iast (q := 27) (a := (Int32.toNatClampNeg a0)) dX12_open_26 rfl shM_4 h1 rfl ?_
  refine ax_aload_n (q := 28) (i := 0) dX12_open_27 rfl rfl rfl ?_
  refine ax_get (q := 31) (k := 0) (j := 9) (v := ax_r 5) dX12_open_28 rfl shM_0 rfl rfl rfl (by decide) fl_X12_22 ?_
  refine ax_iload_n (q := 32) (i := 1) dX12_open_31 rfl rfl rfl ?_
  refine ax_iconst (q := 33) dX12_open_32 rfl ki_0 ?_
  refine ax_iast (q := 34) (a := (Int32.toNatClampNeg a0)) dX12_open_33 rfl shM_5 h1 rfl ?_
  exact ax_vret dX12_open_34 rfl ⟨rfl, rfl⟩
set_option maxRecDepth 20000 in
theorem s_X12_atEnd_0 {d : Nat} (hd : 0 ≤ d) {Q : Option ax_V → ax_S → Prop} (σ : ax_S)  (k1 : (¬ (σ.1 0 4) = (-1 : Int32)) → Q (some (ax_i (σ.1 0 4))) σ) (k2 : (¬ (¬ (σ.1 0 4) = (-1 : Int32))) → ax_Ct shM d mX12_look [ax_r 0] (fun r u => ∃ x : Int32, r = some (ax_i x) ∧ ax_W shM (d + 1) mX12_atEnd Q 12 [some (ax_r 0)] (ax_i x :: []) u) σ) : ax_W shM (d + 1) mX12_atEnd Q 0 [some (ax_r 0)] [] σ := by
  refine ax_aload_n (q := 1) (i := 0) dX12_atEnd_0 rfl rfl rfl ?_
  refine ax_get (q := 4) (k := 0) (j := 4) (v := ax_i (σ.1 0 4)) dX12_atEnd_1 rfl shM_0 rfl rfl rfl (by decide) fl_X12_125 ?_
  refine ax_iconst (q := 5) dX12_atEnd_4 rfl ki_m1 ?_
  refine ax_icmp_ne (tgt := 20) (q := 8) dX12_atEnd_5 (by decide) rfl (fun c1 => ?_) (fun c1 => ?_)
  · refine ax_aload_n (q := 21) (i := 0) dX12_atEnd_20 rfl rfl rfl ?_
    refine ax_get (q := 24) (k := 0) (j := 4) (v := ax_i (σ.1 0 4)) dX12_atEnd_21 rfl shM_0 rfl rfl rfl (by decide) fl_X12_125 ?_
    exact ax_iret dX12_atEnd_24 rfl rfl (k1 c1)
  · refine ax_aload_n (q := 9) (i := 0) dX12_atEnd_8 rfl rfl rfl ?_
    exact ax_callVci (q := 12) (As := []) (st := []) dX12_atEnd_9 rfl lk_X12_137 shM_0 rfl rfl rfl rfl (Nat.le_of_ble_eq_true rfl) (k2 c1)
set_option maxRecDepth 20000 in
theorem s_X12_atEnd_12 {d : Nat} (hd : 1 ≤ d) {Q : Option ax_V → ax_S → Prop} (σ : ax_S) (rr : Int32) (k1 : (rr = (-1 : Int32)) → Q (some (ax_i (σ.1 0 4))) σ) (k2 : (¬ (rr = (-1 : Int32))) → Q (some (ax_i (if (¬ (σ.1 0 4) = (-1 : Int32)) then (σ.1 0 4) else (σ.1 0 3)))) (ax_ui σ 0 4 (if (¬ (σ.1 0 4) = (-1 : Int32)) then (σ.1 0 4) else (σ.1 0 3)))) : ax_W shM (d + 1) mX12_atEnd Q 12 [some (ax_r 0)] [ax_i rr] σ := by
  refine ax_iconst (q := 13) dX12_atEnd_12 rfl ki_m1 ?_
  refine ax_icmp_eq (tgt := 20) (q := 16) dX12_atEnd_13 (by decide) rfl (fun c1 => ?_) (fun c1 => ?_)
  · refine ax_aload_n (q := 21) (i := 0) dX12_atEnd_20 rfl rfl rfl ?_
    refine ax_get (q := 24) (k := 0) (j := 4) (v := ax_i (σ.1 0 4)) dX12_atEnd_21 rfl shM_0 rfl rfl rfl (by decide) fl_X12_125 ?_
    exact ax_iret dX12_atEnd_24 rfl rfl (k1 c1)
  · refine ax_aload_n (q := 17) (i := 0) dX12_atEnd_16 rfl rfl rfl ?_
    refine ax_callVfv (q := 20) (As := []) (st := []) (σ2 := (ax_ui σ 0 4 (if (¬ (σ.1 0 4) = (-1 : Int32)) then (σ.1 0 4) else (σ.1 0 3)))) dX12_atEnd_17 rfl lk_X12_134 shM_0 rfl rfl rfl rfl (Nat.le_of_ble_eq_true rfl) (f_X12_bad σ   (d := d) (by omega)) ?_
    refine ax_aload_n (q := 21) (i := 0) dX12_atEnd_20 rfl rfl rfl ?_
    refine ax_get (q := 24) (k := 0) (j := 4) (v := ax_i (if (¬ (σ.1 0 4) = (-1 : Int32)) then (σ.1 0 4) else (σ.1 0 3))) dX12_atEnd_21 rfl shM_0 rfl rfl rfl (by decide) fl_X12_125 ?_
    exact ax_iret dX12_atEnd_24 rfl rfl (k2 c1)
set_option maxRecDepth 20000 in
theorem s_X12_readLaw_0 {d : Nat} (hd : 1 ≤ d) {Q : Option ax_V → ax_S → Prop} (σ : ax_S) (a0 : Int32) (h1 : vp_in a0 5) (k2 : ax_Ct shM d mX12_clause [ax_r 0] (fun r u => r = none ∧ ax_W shM (d + 1) mX12_readLaw Q 9 [some (ax_r 0), none] [] u) (ax_ui (ax_ui (ax_ui (ax_ui (ax_ui (ax_ui σ 0 14 a0) 0 3 (0 : Int32)) 0 4 (-1 : Int32)) 0 5 (0 : Int32)) 4 (Int32.toNatClampNeg a0) (0 : Int32)) 5 (Int32.toNatClampNeg a0) (0 : Int32))) : ax_W shM (d + 1) mX12_readLaw Q 0 [some (ax_r 0), some (ax_i a0)] [] σ := by
  refine ax_aload_n (q := 1) (i := 0) dX12_readLaw_0 rfl rfl rfl ?_
  refine ax_iload_n (q := 2) (i := 1) dX12_readLaw_1 rfl rfl rfl ?_
  refine ax_callVfv (q := 5) (As := [ax_i a0]) (st := []) (σ2 := (ax_ui (ax_ui (ax_ui (ax_ui (ax_ui (ax_ui σ 0 14 a0) 0 3 (0 : Int32)) 0 4 (-1 : Int32)) 0 5 (0 : Int32)) 4 (Int32.toNatClampNeg a0) (0 : Int32)) 5 (Int32.toNatClampNeg a0) (0 : Int32))) dX12_readLaw_2 rfl lk_X12_189 shM_0 rfl rfl rfl rfl (Nat.le_of_ble_eq_true rfl) (f_X12_open σ a0 h1 (d := d) (by omega)) ?_
  refine ax_aload_n (q := 6) (i := 0) dX12_readLaw_5 rfl rfl rfl ?_
  refine ax_fg (lv2 := [some (ax_r 0), none]) ⟨rfl, trivial⟩ ?_
  exact ax_callVcv (q := 9) (As := []) (st := []) dX12_readLaw_6 rfl lk_X12_192 shM_0 rfl rfl rfl rfl (Nat.le_of_ble_eq_true rfl) k2
set_option maxRecDepth 20000 in
theorem s_X12_readLaw_9 {d : Nat} (hd : 0 ≤ d) {Q : Option ax_V → ax_S → Prop} (σ : ax_S)  (k1 : (¬ (σ.1 0 4) = (-1 : Int32)) → ax_Ct shM d mX12_atEnd [ax_r 0] (fun r u => ∃ x : Int32, r = some (ax_i x) ∧ ax_W shM (d + 1) mX12_readLaw Q 47 [none, none] (ax_i x :: []) u) σ) (k2 : (¬ (¬ (σ.1 0 4) = (-1 : Int32))) → ax_Ct shM d mX12_look [ax_r 0] (fun r u => ∃ x : Int32, r = some (ax_i x) ∧ ax_W shM (d + 1) mX12_readLaw Q 21 [some (ax_r 0), none] (ax_i x :: []) u) σ) : ax_W shM (d + 1) mX12_readLaw Q 9 [some (ax_r 0), none] [] σ := by
  refine ax_aload_n (q := 10) (i := 0) dX12_readLaw_9 rfl rfl rfl ?_
  refine ax_get (q := 13) (k := 0) (j := 4) (v := ax_i (σ.1 0 4)) dX12_readLaw_10 rfl shM_0 rfl rfl rfl (by decide) fl_X12_125 ?_
  refine ax_iconst (q := 14) dX12_readLaw_13 rfl ki_m1 ?_
  refine ax_icmp_ne (tgt := 43) (q := 17) dX12_readLaw_14 (by decide) rfl (fun c1 => ?_) (fun c1 => ?_)
  · refine ax_aload_n (q := 44) (i := 0) dX12_readLaw_43 rfl rfl rfl ?_
    refine ax_fg (lv2 := [none, none]) trivial ?_
    exact ax_callVci (q := 47) (As := []) (st := []) dX12_readLaw_44 rfl lk_X12_195 shM_0 rfl rfl rfl rfl (Nat.le_of_ble_eq_true rfl) (k1 c1)
  · refine ax_aload_n (q := 18) (i := 0) dX12_readLaw_17 rfl rfl rfl ?_
    exact ax_callVci (q := 21) (As := []) (st := []) dX12_readLaw_18 rfl lk_X12_137 shM_0 rfl rfl rfl rfl (Nat.le_of_ble_eq_true rfl) (k2 c1)
set_option maxRecDepth 20000 in
theorem s_X12_readLaw_21 {d : Nat} (hd : 0 ≤ d) {Q : Option ax_V → ax_S → Prop} (σ : ax_S) (rr : Int32) (k1 : (¬ rr = (59 : Int32)) → ax_Ct shM d mX12_atEnd [ax_r 0] (fun r u => ∃ x : Int32, r = some (ax_i x) ∧ ax_W shM (d + 1) mX12_readLaw Q 47 [none, none] (ax_i x :: []) u) σ) (k2 : (¬ (¬ rr = (59 : Int32))) → ax_Ct shM d mX12_clause [ax_r 0] (fun r u => r = none ∧ ax_W shM (d + 1) mX12_readLaw Q 40 [some (ax_r 0), none] [] u) (ax_ui σ 0 3 ((σ.1 0 3) + (1 : Int32)))) : ax_W shM (d + 1) mX12_readLaw Q 21 [some (ax_r 0), none] [ax_i rr] σ := by
  refine ax_bipush (q := 23) dX12_readLaw_21 rfl kb_59 ?_
  refine ax_icmp_ne (tgt := 43) (q := 26) dX12_readLaw_23 (by decide) rfl (fun c1 => ?_) (fun c1 => ?_)
  · refine ax_aload_n (q := 44) (i := 0) dX12_readLaw_43 rfl rfl rfl ?_
    refine ax_fg (lv2 := [none, none]) trivial ?_
    exact ax_callVci (q := 47) (As := []) (st := []) dX12_readLaw_44 rfl lk_X12_195 shM_0 rfl rfl rfl rfl (Nat.le_of_ble_eq_true rfl) (k1 c1)
  · refine ax_aload_n (q := 27) (i := 0) dX12_readLaw_26 rfl rfl rfl ?_
    refine ax_dupr (q := 28) dX12_readLaw_27 rfl ?_
    refine ax_get (q := 31) (k := 0) (j := 3) (v := ax_i (σ.1 0 3)) dX12_readLaw_28 rfl shM_0 rfl rfl rfl (by decide) fl_X12_118 ?_
    refine ax_iconst (q := 32) dX12_readLaw_31 rfl ki_1 ?_
    refine ax_iadd (q := 33) dX12_readLaw_32 rfl ?_
    refine ax_puti (q := 36) (k := 0) (j := 3) dX12_readLaw_33 rfl shM_0 rfl rfl (by decide) fl_X12_118 rfl rfl rfl rfl ?_
    refine ax_aload_n (q := 37) (i := 0) dX12_readLaw_36 rfl rfl rfl ?_
    exact ax_callVcv (q := 40) (As := []) (st := []) dX12_readLaw_37 rfl lk_X12_192 shM_0 rfl rfl rfl rfl (Nat.le_of_ble_eq_true rfl) (k2 c1)
set_option maxRecDepth 20000 in
theorem s_X12_readLaw_47 {d : Nat} (hd : 0 ≤ d) {Q : Option ax_V → ax_S → Prop} (σ : ax_S) (rr : Int32) (k1 : Q (some (ax_i rr)) σ) : ax_W shM (d + 1) mX12_readLaw Q 47 [none, none] [ax_i rr] σ := by
  exact ax_iret dX12_readLaw_47 rfl rfl k1
set_option maxRecDepth 20000 in
theorem s_X12_readLaw_40 {d : Nat} (hd : 0 ≤ d) {Q : Option ax_V → ax_S → Prop} (σ : ax_S)  (k1 : ax_W shM (d + 1) mX12_readLaw Q 9 [some (ax_r 0), none] [] σ) : ax_W shM (d + 1) mX12_readLaw Q 40 [some (ax_r 0), none] [] σ := by
  refine ax_goto (tgt := 9) dX12_readLaw_40 (by decide) ?_
  exact k1
def v_X12_bounded (a0 : Int64) : Int32 := (Int64.toInt32 (if (if a0 < (1000000 : Int64) then a0 else (1000000 : Int64)) < (-1000000 : Int64) then (-1000000 : Int64) else (if a0 < (1000000 : Int64) then a0 else (1000000 : Int64))))
set_option maxRecDepth 20000 in
theorem f_X12_bounded {sh : List ax_H} (σ : ax_S) (a0 : Int64)  {d : Nat} (hd : 1 ≤ d) : ax_Ct sh d mX12_bounded [ax_l a0] (fun r u => r = some (ax_i (v_X12_bounded a0)) ∧ u = σ) σ := by
  obtain ⟨d, rfl⟩ : ∃ e, d = e + 1 := ⟨d - 1, by omega⟩
  refine ax_Ct.of (lv := [some (ax_l a0), none]) (by decide +kernel) (fun ad => Nat.le_of_ble_eq_true rfl) (fun ad => rfl) ?_
  refine ax_ldc2 (q := 3) dX12_bounded_0 rfl kc_X12_198 ?_
  refine ax_ldc2 (q := 6) dX12_bounded_3 rfl kc_X12_200 ?_
  refine ax_lload_n (q := 7) (i := 0) dX12_bounded_6 rfl rfl rfl ?_
  refine ax_mmin_long (q := 10) dX12_bounded_7 rfl mk_X12_202 (Nat.le_of_ble_eq_true rfl) ?_
  refine ax_mmax_long (q := 13) dX12_bounded_10 rfl mk_X12_208 (Nat.le_of_ble_eq_true rfl) ?_
  refine ax_l2i (q := 14) dX12_bounded_13 rfl ?_
  exact ax_iret dX12_bounded_14 rfl rfl ⟨rfl, rfl⟩
