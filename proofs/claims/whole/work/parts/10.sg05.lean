set_option maxRecDepth 20000 in
theorem s_X11_feed_0 {d : Nat} (hd : 0 ≤ d) {Q : Option ax_V → ax_S → Prop} (σ : ax_S) (a0 : Int32) (a1 : Int32) (a2 : Int32) (a3 : Int32) (a4 : Int32) (k1 : ax_Ct shC d mX11_bytesOf [ax_i a0] (fun r u => ∃ x : Int32, r = some (ax_i x) ∧ ax_W shC (d + 1) mX11_feed Q 4 [some (ax_r 0), some (ax_i a0), some (ax_i a1), some (ax_i a2), some (ax_i a3), some (ax_i a4), none] (ax_i x :: []) u) σ) : ax_W shC (d + 1) mX11_feed Q 0 [some (ax_r 0), some (ax_i a0), some (ax_i a1), some (ax_i a2), some (ax_i a3), some (ax_i a4), none] [] σ := by
  refine ax_iload_n (q := 1) (i := 1) dX11_feed_0 rfl rfl rfl ?_
  exact ax_callSci (q := 4) (As := [ax_i a0]) (st := []) dX11_feed_1 rfl lk_X11_110 rfl rfl (Nat.le_of_ble_eq_true rfl) k1
set_option maxRecDepth 20000 in
theorem s_X11_feed_4 {d : Nat} (hd : 0 ≤ d) {Q : Option ax_V → ax_S → Prop} (σ : ax_S) (x1 : Int32) (x2 : Int32) (x3 : Int32) (x4 : Int32) (x5 : Int32) (rr : Int32) (k1 : ax_Ct shC d mX11_bytesOf [ax_i x2] (fun r u => ∃ x : Int32, r = some (ax_i x) ∧ ax_W shC (d + 1) mX11_feed Q 8 [some (ax_r 0), some (ax_i x1), some (ax_i x2), some (ax_i x3), some (ax_i x4), some (ax_i x5), none] (ax_i x :: [ax_i rr]) u) σ) : ax_W shC (d + 1) mX11_feed Q 4 [some (ax_r 0), some (ax_i x1), some (ax_i x2), some (ax_i x3), some (ax_i x4), some (ax_i x5), none] [ax_i rr] σ := by
  refine ax_iload_n (q := 5) (i := 2) dX11_feed_4 rfl rfl rfl ?_
  exact ax_callSci (q := 8) (As := [ax_i x2]) (st := [ax_i rr]) dX11_feed_5 rfl lk_X11_110 rfl rfl (Nat.le_of_ble_eq_true rfl) k1
set_option maxRecDepth 20000 in
theorem s_X11_feed_8 {d : Nat} (hd : 0 ≤ d) {Q : Option ax_V → ax_S → Prop} (σ : ax_S) (x1 : Int32) (x2 : Int32) (x3 : Int32) (x4 : Int32) (x5 : Int32) (rr : Int32) (y0 : Int32) (k1 : ax_Ct shC d mX11_bytesOf [ax_i x3] (fun r u => ∃ x : Int32, r = some (ax_i x) ∧ ax_W shC (d + 1) mX11_feed Q 13 [some (ax_r 0), some (ax_i x1), some (ax_i x2), some (ax_i x3), some (ax_i x4), some (ax_i x5), none] (ax_i x :: [ax_i (y0 + rr)]) u) σ) : ax_W shC (d + 1) mX11_feed Q 8 [some (ax_r 0), some (ax_i x1), some (ax_i x2), some (ax_i x3), some (ax_i x4), some (ax_i x5), none] [ax_i rr, ax_i y0] σ := by
  refine ax_iadd (q := 9) dX11_feed_8 rfl ?_
  refine ax_iload_n (q := 10) (i := 3) dX11_feed_9 rfl rfl rfl ?_
  exact ax_callSci (q := 13) (As := [ax_i x3]) (st := [ax_i (y0 + rr)]) dX11_feed_10 rfl lk_X11_110 rfl rfl (Nat.le_of_ble_eq_true rfl) k1
set_option maxRecDepth 20000 in
theorem s_X11_feed_13 {d : Nat} (hd : 0 ≤ d) {Q : Option ax_V → ax_S → Prop} (σ : ax_S) (x1 : Int32) (x2 : Int32) (x3 : Int32) (x4 : Int32) (x5 : Int32) (rr : Int32) (y0 : Int32) (k1 : ax_Ct shC d mX11_bytesOf [ax_i x4] (fun r u => ∃ x : Int32, r = some (ax_i x) ∧ ax_W shC (d + 1) mX11_feed Q 19 [some (ax_r 0), some (ax_i x1), some (ax_i x2), some (ax_i x3), some (ax_i x4), some (ax_i x5), none] (ax_i x :: [ax_i (y0 + rr)]) u) σ) : ax_W shC (d + 1) mX11_feed Q 13 [some (ax_r 0), some (ax_i x1), some (ax_i x2), some (ax_i x3), some (ax_i x4), some (ax_i x5), none] [ax_i rr, ax_i y0] σ := by
  refine ax_iadd (q := 14) dX11_feed_13 rfl ?_
  refine ax_iload (q := 16) dX11_feed_14 rfl rfl ?_
  exact ax_callSci (q := 19) (As := [ax_i x4]) (st := [ax_i (y0 + rr)]) dX11_feed_16 rfl lk_X11_110 rfl rfl (Nat.le_of_ble_eq_true rfl) k1
set_option maxRecDepth 20000 in
theorem s_X11_feed_19 {d : Nat} (hd : 0 ≤ d) {Q : Option ax_V → ax_S → Prop} (σ : ax_S) (x1 : Int32) (x2 : Int32) (x3 : Int32) (x4 : Int32) (x5 : Int32) (rr : Int32) (y0 : Int32) (k1 : ax_Ct shC d mX11_bytesOf [ax_i x5] (fun r u => ∃ x : Int32, r = some (ax_i x) ∧ ax_W shC (d + 1) mX11_feed Q 25 [some (ax_r 0), some (ax_i x1), some (ax_i x2), some (ax_i x3), some (ax_i x4), some (ax_i x5), none] (ax_i x :: [ax_i (y0 + rr)]) u) σ) : ax_W shC (d + 1) mX11_feed Q 19 [some (ax_r 0), some (ax_i x1), some (ax_i x2), some (ax_i x3), some (ax_i x4), some (ax_i x5), none] [ax_i rr, ax_i y0] σ := by
  refine ax_iadd (q := 20) dX11_feed_19 rfl ?_
  refine ax_iload (q := 22) dX11_feed_20 rfl rfl ?_
  exact ax_callSci (q := 25) (As := [ax_i x5]) (st := [ax_i (y0 + rr)]) dX11_feed_22 rfl lk_X11_110 rfl rfl (Nat.le_of_ble_eq_true rfl) k1
set_option maxRecDepth 20000 in
theorem s_X11_feed_25 {d : Nat} (hd : 0 ≤ d) {Q : Option ax_V → ax_S → Prop} (σ : ax_S) (x1 : Int32) (x2 : Int32) (x3 : Int32) (x4 : Int32) (x5 : Int32) (rr : Int32) (y0 : Int32) (k1 : (((σ.1 1 1) + (y0 + rr)) ≤ (240 : Int32)) → ax_Ct shC d mX9_addBytes [ax_r 1, ax_i x1] (fun r u => r = none ∧ ax_W shC (d + 1) mX11_feed Q 54 [some (ax_r 0), none, some (ax_i x2), some (ax_i x3), some (ax_i x4), some (ax_i x5), none] [] u) σ) (k2 : (¬ (((σ.1 1 1) + (y0 + rr)) ≤ (240 : Int32))) → Q (some (ax_i (-1 : Int32))) σ) : ax_W shC (d + 1) mX11_feed Q 25 [some (ax_r 0), some (ax_i x1), some (ax_i x2), some (ax_i x3), some (ax_i x4), some (ax_i x5), none] [ax_i rr, ax_i y0] σ := by
  refine ax_iadd (q := 26) dX11_feed_25 rfl ?_
  refine ax_istore (q := 28) (lv2 := [some (ax_r 0), some (ax_i x1), some (ax_i x2), some (ax_i x3), some (ax_i x4), some (ax_i x5), some (ax_i (y0 + rr))]) dX11_feed_26 rfl (by decide) rfl rfl ?_
  refine ax_aload_n (q := 29) (i := 0) dX11_feed_28 rfl rfl rfl ?_
  refine ax_get (q := 32) (k := 0) (j := 0) (v := ax_r 1) dX11_feed_29 rfl shC_0 rfl rfl rfl (by decide) fl_X11_10 ?_
  refine ax_get (q := 35) (k := 1) (j := 1) (v := ax_i (σ.1 1 1)) dX11_feed_32 rfl shC_1 rfl rfl rfl (by decide) fl_X11_114 ?_
  refine ax_iload (q := 37) dX11_feed_35 rfl rfl ?_
  refine ax_iadd (q := 38) dX11_feed_37 rfl ?_
  refine ax_sipush (q := 41) dX11_feed_38 rfl ks_240 ?_
  refine ax_icmp_le (tgt := 46) (q := 44) dX11_feed_41 (by decide) rfl (fun c1 => ?_) (fun c1 => ?_)
  · refine ax_aload_n (q := 47) (i := 0) dX11_feed_46 rfl rfl rfl ?_
    refine ax_get (q := 50) (k := 0) (j := 0) (v := ax_r 1) dX11_feed_47 rfl shC_0 rfl rfl rfl (by decide) fl_X11_10 ?_
    refine ax_iload_n (q := 51) (i := 1) dX11_feed_50 rfl rfl rfl ?_
    refine ax_fg (lv2 := [some (ax_r 0), none, some (ax_i x2), some (ax_i x3), some (ax_i x4), some (ax_i x5), none]) ⟨rfl, rfl, rfl, rfl, rfl, trivial⟩ ?_
    exact ax_callVcv (q := 54) (As := [ax_i x1]) (st := []) dX11_feed_51 rfl lk_X11_117 shC_1 rfl rfl rfl rfl (Nat.le_of_ble_eq_true rfl) (k1 c1)
  · refine ax_iconst (q := 45) dX11_feed_44 rfl ki_m1 ?_
    exact ax_iret dX11_feed_45 rfl rfl (k2 c1)
set_option maxRecDepth 20000 in
theorem s_X11_feed_54 {d : Nat} (hd : 0 ≤ d) {Q : Option ax_V → ax_S → Prop} (σ : ax_S) (x2 : Int32) (x3 : Int32) (x4 : Int32) (x5 : Int32) (k1 : ax_Ct shC d mX9_addBytes [ax_r 1, ax_i x2] (fun r u => r = none ∧ ax_W shC (d + 1) mX11_feed Q 62 [some (ax_r 0), none, none, some (ax_i x3), some (ax_i x4), some (ax_i x5), none] [] u) σ) : ax_W shC (d + 1) mX11_feed Q 54 [some (ax_r 0), none, some (ax_i x2), some (ax_i x3), some (ax_i x4), some (ax_i x5), none] [] σ := by
  refine ax_aload_n (q := 55) (i := 0) dX11_feed_54 rfl rfl rfl ?_
  refine ax_get (q := 58) (k := 0) (j := 0) (v := ax_r 1) dX11_feed_55 rfl shC_0 rfl rfl rfl (by decide) fl_X11_10 ?_
  refine ax_iload_n (q := 59) (i := 2) dX11_feed_58 rfl rfl rfl ?_
  refine ax_fg (lv2 := [some (ax_r 0), none, none, some (ax_i x3), some (ax_i x4), some (ax_i x5), none]) ⟨rfl, rfl, rfl, rfl, trivial⟩ ?_
  exact ax_callVcv (q := 62) (As := [ax_i x2]) (st := []) dX11_feed_59 rfl lk_X11_117 shC_1 rfl rfl rfl rfl (Nat.le_of_ble_eq_true rfl) k1
set_option maxRecDepth 20000 in
theorem s_X11_feed_62 {d : Nat} (hd : 0 ≤ d) {Q : Option ax_V → ax_S → Prop} (σ : ax_S) (x3 : Int32) (x4 : Int32) (x5 : Int32) (k1 : ax_Ct shC d mX9_addBytes [ax_r 1, ax_i x3] (fun r u => r = none ∧ ax_W shC (d + 1) mX11_feed Q 70 [some (ax_r 0), none, none, none, some (ax_i x4), some (ax_i x5), none] [] u) σ) : ax_W shC (d + 1) mX11_feed Q 62 [some (ax_r 0), none, none, some (ax_i x3), some (ax_i x4), some (ax_i x5), none] [] σ := by
  refine ax_aload_n (q := 63) (i := 0) dX11_feed_62 rfl rfl rfl ?_
  refine ax_get (q := 66) (k := 0) (j := 0) (v := ax_r 1) dX11_feed_63 rfl shC_0 rfl rfl rfl (by decide) fl_X11_10 ?_
  refine ax_iload_n (q := 67) (i := 3) dX11_feed_66 rfl rfl rfl ?_
  refine ax_fg (lv2 := [some (ax_r 0), none, none, none, some (ax_i x4), some (ax_i x5), none]) ⟨rfl, rfl, rfl, trivial⟩ ?_
  exact ax_callVcv (q := 70) (As := [ax_i x3]) (st := []) dX11_feed_67 rfl lk_X11_117 shC_1 rfl rfl rfl rfl (Nat.le_of_ble_eq_true rfl) k1
set_option maxRecDepth 20000 in
theorem s_X11_feed_70 {d : Nat} (hd : 0 ≤ d) {Q : Option ax_V → ax_S → Prop} (σ : ax_S) (x4 : Int32) (x5 : Int32) (k1 : ax_Ct shC d mX9_addBytes [ax_r 1, ax_i x4] (fun r u => r = none ∧ ax_W shC (d + 1) mX11_feed Q 79 [some (ax_r 0), none, none, none, none, some (ax_i x5), none] [] u) σ) : ax_W shC (d + 1) mX11_feed Q 70 [some (ax_r 0), none, none, none, some (ax_i x4), some (ax_i x5), none] [] σ := by
  refine ax_aload_n (q := 71) (i := 0) dX11_feed_70 rfl rfl rfl ?_
  refine ax_get (q := 74) (k := 0) (j := 0) (v := ax_r 1) dX11_feed_71 rfl shC_0 rfl rfl rfl (by decide) fl_X11_10 ?_
  refine ax_iload (q := 76) dX11_feed_74 rfl rfl ?_
  refine ax_fg (lv2 := [some (ax_r 0), none, none, none, none, some (ax_i x5), none]) ⟨rfl, rfl, trivial⟩ ?_
  exact ax_callVcv (q := 79) (As := [ax_i x4]) (st := []) dX11_feed_76 rfl lk_X11_117 shC_1 rfl rfl rfl rfl (Nat.le_of_ble_eq_true rfl) k1
set_option maxRecDepth 20000 in
theorem s_X11_feed_79 {d : Nat} (hd : 0 ≤ d) {Q : Option ax_V → ax_S → Prop} (σ : ax_S) (x5 : Int32) (k1 : ax_Ct shC d mX9_addBytes [ax_r 1, ax_i x5] (fun r u => r = none ∧ ax_W shC (d + 1) mX11_feed Q 88 [some (ax_r 0), none, none, none, none, none, none] [] u) σ) : ax_W shC (d + 1) mX11_feed Q 79 [some (ax_r 0), none, none, none, none, some (ax_i x5), none] [] σ := by
  refine ax_aload_n (q := 80) (i := 0) dX11_feed_79 rfl rfl rfl ?_
  refine ax_get (q := 83) (k := 0) (j := 0) (v := ax_r 1) dX11_feed_80 rfl shC_0 rfl rfl rfl (by decide) fl_X11_10 ?_
  refine ax_iload (q := 85) dX11_feed_83 rfl rfl ?_
  refine ax_fg (lv2 := [some (ax_r 0), none, none, none, none, none, none]) ⟨rfl, trivial⟩ ?_
  exact ax_callVcv (q := 88) (As := [ax_i x5]) (st := []) dX11_feed_85 rfl lk_X11_117 shC_1 rfl rfl rfl rfl (Nat.le_of_ble_eq_true rfl) k1
set_option maxRecDepth 20000 in
theorem s_X11_feed_88 {d : Nat} (hd : 0 ≤ d) {Q : Option ax_V → ax_S → Prop} (σ : ax_S)  (k1 : Q (some (ax_i (σ.1 1 1))) σ) : ax_W shC (d + 1) mX11_feed Q 88 [some (ax_r 0), none, none, none, none, none, none] [] σ := by
  refine ax_aload_n (q := 89) (i := 0) dX11_feed_88 rfl rfl rfl ?_
  refine ax_get (q := 92) (k := 0) (j := 0) (v := ax_r 1) dX11_feed_89 rfl shC_0 rfl rfl rfl (by decide) fl_X11_10 ?_
  refine ax_get (q := 95) (k := 1) (j := 1) (v := ax_i (σ.1 1 1)) dX11_feed_92 rfl shC_1 rfl rfl rfl (by decide) fl_X11_114 ?_
  exact ax_iret dX11_feed_95 rfl rfl k1
set_option maxRecDepth 20000 in
theorem s_X11_end_0 {d : Nat} (hd : 0 ≤ d) {Q : Option ax_V → ax_S → Prop} (σ : ax_S) (a0 : Int32) (k1 : (a0 < 0) → Q (some (ax_i (0 : Int32))) σ) (k2 : (¬ (a0 < 0)) → (a0 ≤ (σ.1 1 1)) → Q (some (ax_i (1 : Int32))) (ax_ui σ 1 1 a0)) (k3 : (¬ (a0 < 0)) → (¬ (a0 ≤ (σ.1 1 1))) → Q (some (ax_i (0 : Int32))) σ) : ax_W shC (d + 1) mX11_end Q 0 [some (ax_r 0), some (ax_i a0)] [] σ := by
  refine ax_iload_n (q := 1) (i := 1) dX11_end_0 rfl rfl rfl ?_
  refine ax_if_lt (tgt := 15) (q := 4) dX11_end_1 (by decide) rfl (fun c1 => ?_) (fun c1 => ?_)
  · refine ax_iconst (q := 16) dX11_end_15 rfl ki_0 ?_
    exact ax_iret dX11_end_16 rfl rfl (k1 c1)
  · refine ax_iload_n (q := 5) (i := 1) dX11_end_4 rfl rfl rfl ?_
    refine ax_aload_n (q := 6) (i := 0) dX11_end_5 rfl rfl rfl ?_
    refine ax_get (q := 9) (k := 0) (j := 0) (v := ax_r 1) dX11_end_6 rfl shC_0 rfl rfl rfl (by decide) fl_X11_10 ?_
    refine ax_get (q := 12) (k := 1) (j := 1) (v := ax_i (σ.1 1 1)) dX11_end_9 rfl shC_1 rfl rfl rfl (by decide) fl_X11_114 ?_
    refine ax_icmp_le (tgt := 17) (q := 15) dX11_end_12 (by decide) rfl (fun c2 => ?_) (fun c2 => ?_)
    · refine ax_aload_n (q := 18) (i := 0) dX11_end_17 rfl rfl rfl ?_
      refine ax_get (q := 21) (k := 0) (j := 0) (v := ax_r 1) dX11_end_18 rfl shC_0 rfl rfl rfl (by decide) fl_X11_10 ?_
      refine ax_iload_n (q := 22) (i := 1) dX11_end_21 rfl rfl rfl ?_
      refine ax_puti (q := 25) (k := 1) (j := 1) dX11_end_22 rfl shC_1 rfl rfl (by decide) fl_X11_114 rfl rfl rfl rfl ?_
      refine ax_iconst (q := 26) dX11_end_25 rfl ki_1 ?_
      exact ax_iret dX11_end_26 rfl rfl (k2 c1 c2)
    · refine ax_iconst (q := 16) dX11_end_15 rfl ki_0 ?_
      exact ax_iret dX11_end_16 rfl rfl (k3 c1 c2)
set_option maxRecDepth 20000 in
theorem f_X11_isBit {sh : List ax_H} (σ : ax_S) (a0 : Int32)  {d : Nat} (hd : 1 ≤ d) : ax_Ct sh d mX11_isBit [ax_i a0] (fun r u => r = some (ax_i (if ((a0 = 0) ∨ (¬ (¬ a0 = (1 : Int32)))) then (1 : Int32) else 0)) ∧ u = σ) σ := by
  obtain ⟨d, rfl⟩ : ∃ e, d = e + 1 := ⟨d - 1, by omega⟩
  refine ax_Ct.of (lv := [some (ax_i a0)]) (by decide +kernel) (fun ad => Nat.le_of_ble_eq_true rfl) (fun ad => rfl) ?_
  refine ax_iload_n (q := 1) (i := 0) dX11_isBit_0 rfl rfl rfl ?_
  have K3 : ax_W sh (d + 1) mX11_isBit (fun r u => r = some (ax_i (if ((a0 = 0) ∨ (¬ (¬ a0 = (1 : Int32)))) then (1 : Int32) else 0)) ∧ u = σ) 14 [some (ax_i a0)] [ax_i (if ((a0 = 0) ∨ (¬ (¬ a0 = (1 : Int32)))) then (1 : Int32) else 0)] σ := by
    exact ax_iret dX11_isBit_14 rfl (ax_nb _) ⟨rfl, rfl⟩
  refine ax_if_eq (tgt := 9) (q := 4) dX11_isBit_1 (by decide) rfl (fun c1 => ?_) (fun c1 => ?_)
  · refine ax_iconst (q := 10) dX11_isBit_9 rfl ki_1 ?_
    refine ax_goto (tgt := 14) dX11_isBit_10 (by decide) ?_
    exact ax_cv (if_pos (Or.inl c1)) K3
  · refine ax_iload_n (q := 5) (i := 0) dX11_isBit_4 rfl rfl rfl ?_
    refine ax_iconst (q := 6) dX11_isBit_5 rfl ki_1 ?_
    refine ax_icmp_ne (tgt := 13) (q := 9) dX11_isBit_6 (by decide) rfl (fun c2 => ?_) (fun c2 => ?_)
    · refine ax_iconst (q := 14) dX11_isBit_13 rfl ki_0 ?_
      exact ax_cv (if_neg (fun z => z.elim c1 (fun y => y c2))) K3
    · refine ax_iconst (q := 10) dX11_isBit_9 rfl ki_1 ?_
      refine ax_goto (tgt := 14) dX11_isBit_10 (by decide) ?_
      exact ax_cv (if_pos (Or.inr c2)) K3
set_option maxRecDepth 20000 in
theorem s_X11_tapeReads_0 {d : Nat} (hd : 0 ≤ d) {Q : Option ax_V → ax_S → Prop} (σ : ax_S) (a0 : Int32) (k1 : (¬ a0 = 0) → ax_Ct shC d mX6_reads [ax_r 3] (fun r u => ∃ x : Int32, r = some (ax_i x) ∧ ax_W shC (d + 1) mX11_tapeReads Q 21 [none, none] (ax_i x :: []) u) σ) (k2 : (¬ (¬ a0 = 0)) → ax_Ct shC d mX1_reads [ax_r 2] (fun r u => ∃ x : Int32, r = some (ax_i x) ∧ ax_W shC (d + 1) mX11_tapeReads Q 11 [none, none] (ax_i x :: []) u) σ) : ax_W shC (d + 1) mX11_tapeReads Q 0 [some (ax_r 0), some (ax_i a0)] [] σ := by
  refine ax_iload_n (q := 1) (i := 1) dX11_tapeReads_0 rfl rfl rfl ?_
  refine ax_if_ne (tgt := 14) (q := 4) dX11_tapeReads_1 (by decide) rfl (fun c1 => ?_) (fun c1 => ?_)
  · refine ax_aload_n (q := 15) (i := 0) dX11_tapeReads_14 rfl rfl rfl ?_
    refine ax_get (q := 18) (k := 0) (j := 2) (v := ax_r 3) dX11_tapeReads_15 rfl shC_0 rfl rfl rfl (by decide) fl_X11_28 ?_
    refine ax_fg (lv2 := [none, none]) trivial ?_
    exact ax_callVci (q := 21) (As := []) (st := []) dX11_tapeReads_18 rfl lk_X11_434 shC_3 rfl rfl rfl rfl (Nat.le_of_ble_eq_true rfl) (k1 c1)
  · refine ax_aload_n (q := 5) (i := 0) dX11_tapeReads_4 rfl rfl rfl ?_
    refine ax_get (q := 8) (k := 0) (j := 1) (v := ax_r 2) dX11_tapeReads_5 rfl shC_0 rfl rfl rfl (by decide) fl_X11_21 ?_
    refine ax_fg (lv2 := [none, none]) trivial ?_
    exact ax_callVci (q := 11) (As := []) (st := []) dX11_tapeReads_8 rfl lk_X11_431 shC_2 rfl rfl rfl rfl (Nat.le_of_ble_eq_true rfl) (k2 c1)
set_option maxRecDepth 20000 in
theorem s_X11_tapeReads_11 {d : Nat} (hd : 0 ≤ d) {Q : Option ax_V → ax_S → Prop} (σ : ax_S) (rr : Int32) (k1 : Q (some (ax_i rr)) σ) (h2 : rr = 0 ∨ rr = 1) : ax_W shC (d + 1) mX11_tapeReads Q 11 [none, none] [ax_i rr] σ := by
  refine ax_goto (tgt := 21) dX11_tapeReads_11 (by decide) ?_
  exact ax_iret dX11_tapeReads_21 rfl (ax_nb01 h2) k1
set_option maxRecDepth 20000 in
theorem s_X11_tapeReads_21 {d : Nat} (hd : 0 ≤ d) {Q : Option ax_V → ax_S → Prop} (σ : ax_S) (rr : Int32) (k1 : Q (some (ax_i rr)) σ) (h2 : rr = 0 ∨ rr = 1) : ax_W shC (d + 1) mX11_tapeReads Q 21 [none, none] [ax_i rr] σ := by
  exact ax_iret dX11_tapeReads_21 rfl (ax_nb01 h2) k1
set_option maxRecDepth 20000 in
theorem s_X11_fault_0 {d : Nat} (hd : 1 ≤ d) {Q : Option ax_V → ax_S → Prop} (σ : ax_S) (a0 : Int32) (k1 : ((a0 = 0) ∨ (¬ (¬ a0 = (1 : Int32)))) → ax_Ct shC d mX11_tapeReads [ax_r 0, ax_i a0] (fun r u => ∃ x : Int32, r = some (ax_i x) ∧ ax_W shC (d + 1) mX11_fault Q 15 [some (ax_r 0), none] (ax_i x :: []) u) σ) (k2 : (¬ ((a0 = 0) ∨ (¬ (¬ a0 = (1 : Int32))))) → Q (some (ax_i (-2 : Int32))) σ) : ax_W shC (d + 1) mX11_fault Q 0 [some (ax_r 0), some (ax_i a0)] [] σ := by
  refine ax_iload_n (q := 1) (i := 1) dX11_fault_0 rfl rfl rfl ?_
  refine ax_callSfi (q := 4) (As := [ax_i a0]) (st := []) (x := (if ((a0 = 0) ∨ (¬ (¬ a0 = (1 : Int32)))) then (1 : Int32) else 0)) (σ2 := σ) dX11_fault_1 rfl lk_X11_121 rfl rfl (Nat.le_of_ble_eq_true rfl) (f_X11_isBit (sh := shC) σ a0  (d := d) (by omega)) ?_
  refine ax_if_neB (tgt := 10) (q := 7) dX11_fault_4 (by decide) rfl (fun c1 => ?_) (fun c1 => ?_)
  · refine ax_aload_n (q := 11) (i := 0) dX11_fault_10 rfl rfl rfl ?_
    refine ax_iload_n (q := 12) (i := 1) dX11_fault_11 rfl rfl rfl ?_
    refine ax_fg (lv2 := [some (ax_r 0), none]) ⟨rfl, trivial⟩ ?_
    exact ax_callVci (q := 15) (As := [ax_i a0]) (st := []) dX11_fault_12 rfl lk_X11_125 shC_0 rfl rfl rfl rfl (Nat.le_of_ble_eq_true rfl) (k1 c1)
  · refine ax_bipush (q := 9) dX11_fault_7 rfl kb_m2 ?_
    exact ax_iret dX11_fault_9 rfl rfl (k2 c1)
set_option maxRecDepth 20000 in
theorem s_X11_fault_15 {d : Nat} (hd : 0 ≤ d) {Q : Option ax_V → ax_S → Prop} (σ : ax_S) (rr : Int32) (k1 : Q (some (ax_i (if (rr = 0) then (σ.1 1 2) else (-1 : Int32)))) σ) : ax_W shC (d + 1) mX11_fault Q 15 [some (ax_r 0), none] [ax_i rr] σ := by
  have K2 : ax_W shC (d + 1) mX11_fault Q 29 [some (ax_r 0), none] [ax_i (if (rr = 0) then (σ.1 1 2) else (-1 : Int32))] σ := by
    exact ax_iret dX11_fault_29 rfl rfl k1
  refine ax_if_eq (tgt := 22) (q := 18) dX11_fault_15 (by decide) rfl (fun c1 => ?_) (fun c1 => ?_)
  · refine ax_aload_n (q := 23) (i := 0) dX11_fault_22 rfl rfl rfl ?_
    refine ax_get (q := 26) (k := 0) (j := 0) (v := ax_r 1) dX11_fault_23 rfl shC_0 rfl rfl rfl (by decide) fl_X11_10 ?_
    refine ax_get (q := 29) (k := 1) (j := 2) (v := ax_i (σ.1 1 2)) dX11_fault_26 rfl shC_1 rfl rfl rfl (by decide) fl_X11_128 ?_
    exact ax_cv (if_pos c1) K2
  · refine ax_iconst (q := 19) dX11_fault_18 rfl ki_m1 ?_
    refine ax_goto (tgt := 29) dX11_fault_19 (by decide) ?_
    exact ax_cv (if_neg c1) K2
set_option maxRecDepth 20000 in
theorem s_X11_text_0 {d : Nat} (hd : 1 ≤ d) {Q : Option ax_V → ax_S → Prop} (σ : ax_S) (a0 : Int32) (k1 : (¬ ((a0 = 0) ∨ (¬ (¬ a0 = (1 : Int32))))) → Q (some (ax_i (-1 : Int32))) σ) (k2 : ((a0 = 0) ∨ (¬ (¬ a0 = (1 : Int32)))) → (¬ a0 = (1 : Int32)) → ax_Ct shC d mX11_tapeReads [ax_r 0, ax_i a0] (fun r u => ∃ x : Int32, r = some (ax_i x) ∧ ax_W shC (d + 1) mX11_text Q 28 [some (ax_r 0), some (ax_i a0)] (ax_i x :: []) u) σ) (k3 : ((a0 = 0) ∨ (¬ (¬ a0 = (1 : Int32)))) → (¬ (¬ a0 = (1 : Int32))) → ((4 : Int32) ≤ (σ.1 4 4)) → Q (some (ax_i (-1 : Int32))) σ) (k4 : ((a0 = 0) ∨ (¬ (¬ a0 = (1 : Int32)))) → (¬ (¬ a0 = (1 : Int32))) → (¬ ((4 : Int32) ≤ (σ.1 4 4))) → ax_Ct shC d mX11_tapeReads [ax_r 0, ax_i a0] (fun r u => ∃ x : Int32, r = some (ax_i x) ∧ ax_W shC (d + 1) mX11_text Q 28 [some (ax_r 0), some (ax_i a0)] (ax_i x :: []) u) σ) : ax_W shC (d + 1) mX11_text Q 0 [some (ax_r 0), some (ax_i a0)] [] σ := by
  refine ax_iload_n (q := 1) (i := 1) dX11_text_0 rfl rfl rfl ?_
  refine ax_callSfi (q := 4) (As := [ax_i a0]) (st := []) (x := (if ((a0 = 0) ∨ (¬ (¬ a0 = (1 : Int32)))) then (1 : Int32) else 0)) (σ2 := σ) dX11_text_1 rfl lk_X11_121 rfl rfl (Nat.le_of_ble_eq_true rfl) (f_X11_isBit (sh := shC) σ a0  (d := d) (by omega)) ?_
  refine ax_if_eqB (tgt := 31) (q := 7) dX11_text_4 (by decide) rfl (fun c1 => ?_) (fun c1 => ?_)
  · refine ax_iconst (q := 32) dX11_text_31 rfl ki_m1 ?_
    exact ax_iret dX11_text_32 rfl rfl (k1 c1)
  · refine ax_iload_n (q := 8) (i := 1) dX11_text_7 rfl rfl rfl ?_
    refine ax_iconst (q := 9) dX11_text_8 rfl ki_1 ?_
    refine ax_icmp_ne (tgt := 23) (q := 12) dX11_text_9 (by decide) rfl (fun c2 => ?_) (fun c2 => ?_)
    · refine ax_aload_n (q := 24) (i := 0) dX11_text_23 rfl rfl rfl ?_
      refine ax_iload_n (q := 25) (i := 1) dX11_text_24 rfl rfl rfl ?_
      exact ax_callVci (q := 28) (As := [ax_i a0]) (st := []) dX11_text_25 rfl lk_X11_125 shC_0 rfl rfl rfl rfl (Nat.le_of_ble_eq_true rfl) (k2 c1 c2)
    · refine ax_aload_n (q := 13) (i := 0) dX11_text_12 rfl rfl rfl ?_
      refine ax_get (q := 16) (k := 0) (j := 3) (v := ax_r 4) dX11_text_13 rfl shC_0 rfl rfl rfl (by decide) fl_X11_35 ?_
      refine ax_get (q := 19) (k := 4) (j := 4) (v := ax_i (σ.1 4 4)) dX11_text_16 rfl shC_4 rfl rfl rfl (by decide) fl_X11_131 ?_
      refine ax_iconst (q := 20) dX11_text_19 rfl ki_4 ?_
      refine ax_icmp_ge (tgt := 31) (q := 23) dX11_text_20 (by decide) rfl (fun c3 => ?_) (fun c3 => ?_)
      · refine ax_iconst (q := 32) dX11_text_31 rfl ki_m1 ?_
        exact ax_iret dX11_text_32 rfl rfl (k3 c1 c2 c3)
      · refine ax_aload_n (q := 24) (i := 0) dX11_text_23 rfl rfl rfl ?_
        refine ax_iload_n (q := 25) (i := 1) dX11_text_24 rfl rfl rfl ?_
        exact ax_callVci (q := 28) (As := [ax_i a0]) (st := []) dX11_text_25 rfl lk_X11_125 shC_0 rfl rfl rfl rfl (Nat.le_of_ble_eq_true rfl) (k4 c1 c2 c3)
set_option maxRecDepth 20000 in
theorem s_X11_text_28 {d : Nat} (hd : 0 ≤ d) {Q : Option ax_V → ax_S → Prop} (σ : ax_S) (x1 : Int32) (rr : Int32) (k1 : (¬ rr = 0) → (¬ x1 = (1 : Int32)) → ax_Ct shC d mX0_take [ax_r 5, ax_r 2] (fun r u => r = none ∧ ax_W shC (d + 1) mX11_text Q 69 [some (ax_r 0), none] [] u) (ax_ui σ 1 1 (0 : Int32))) (k2 : (¬ rr = 0) → (¬ (¬ x1 = (1 : Int32))) → ax_Ct shC d mX7_add [ax_r 4, ax_r 3] (fun r u => ∃ x : Int32, r = some (ax_i x) ∧ ax_W shC (d + 1) mX11_text Q 57 [none, none] (ax_i x :: []) u) (ax_ui σ 1 1 (0 : Int32))) (k3 : (¬ (¬ rr = 0)) → Q (some (ax_i (-1 : Int32))) σ) : ax_W shC (d + 1) mX11_text Q 28 [some (ax_r 0), some (ax_i x1)] [ax_i rr] σ := by
  refine ax_if_ne (tgt := 33) (q := 31) dX11_text_28 (by decide) rfl (fun c1 => ?_) (fun c1 => ?_)
  · refine ax_aload_n (q := 34) (i := 0) dX11_text_33 rfl rfl rfl ?_
    refine ax_get (q := 37) (k := 0) (j := 0) (v := ax_r 1) dX11_text_34 rfl shC_0 rfl rfl rfl (by decide) fl_X11_10 ?_
    refine ax_iconst (q := 38) dX11_text_37 rfl ki_0 ?_
    refine ax_puti (q := 41) (k := 1) (j := 1) dX11_text_38 rfl shC_1 rfl rfl (by decide) fl_X11_114 rfl rfl rfl rfl ?_
    refine ax_iload_n (q := 42) (i := 1) dX11_text_41 rfl rfl rfl ?_
    refine ax_iconst (q := 43) dX11_text_42 rfl ki_1 ?_
    refine ax_icmp_ne (tgt := 58) (q := 46) dX11_text_43 (by decide) rfl (fun c2 => ?_) (fun c2 => ?_)
    · refine ax_aload_n (q := 59) (i := 0) dX11_text_58 rfl rfl rfl ?_
      refine ax_get (q := 62) (k := 0) (j := 4) (v := ax_r 5) dX11_text_59 rfl shC_0 rfl rfl rfl (by decide) fl_X11_42 ?_
      refine ax_aload_n (q := 63) (i := 0) dX11_text_62 rfl rfl rfl ?_
      refine ax_get (q := 66) (k := 0) (j := 1) (v := ax_r 2) dX11_text_63 rfl shC_0 rfl rfl rfl (by decide) fl_X11_21 ?_
      refine ax_fg (lv2 := [some (ax_r 0), none]) ⟨rfl, trivial⟩ ?_
      exact ax_callVcv (q := 69) (As := [ax_r 2]) (st := []) dX11_text_66 rfl lk_X11_138 shC_5 rfl rfl rfl rfl (Nat.le_of_ble_eq_true rfl) (k1 c1 c2)
    · refine ax_aload_n (q := 47) (i := 0) dX11_text_46 rfl rfl rfl ?_
      refine ax_get (q := 50) (k := 0) (j := 3) (v := ax_r 4) dX11_text_47 rfl shC_0 rfl rfl rfl (by decide) fl_X11_35 ?_
      refine ax_aload_n (q := 51) (i := 0) dX11_text_50 rfl rfl rfl ?_
      refine ax_get (q := 54) (k := 0) (j := 2) (v := ax_r 3) dX11_text_51 rfl shC_0 rfl rfl rfl (by decide) fl_X11_28 ?_
      refine ax_fg (lv2 := [none, none]) trivial ?_
      exact ax_callVci (q := 57) (As := [ax_r 3]) (st := []) dX11_text_54 rfl lk_X11_134 shC_4 rfl rfl rfl rfl (Nat.le_of_ble_eq_true rfl) (k2 c1 c2)
  · refine ax_iconst (q := 32) dX11_text_31 rfl ki_m1 ?_
    exact ax_iret dX11_text_32 rfl rfl (k3 c1)
set_option maxRecDepth 20000 in
theorem s_X11_text_57 {d : Nat} (hd : 0 ≤ d) {Q : Option ax_V → ax_S → Prop} (σ : ax_S) (rr : Int32) (k1 : Q (some (ax_i rr)) σ) : ax_W shC (d + 1) mX11_text Q 57 [none, none] [ax_i rr] σ := by
  exact ax_iret dX11_text_57 rfl rfl k1
set_option maxRecDepth 20000 in
theorem s_X11_text_69 {d : Nat} (hd : 1 ≤ d) {Q : Option ax_V → ax_S → Prop} (σ : ax_S)  (k1 : Q (some (ax_i (σ.1 5 9))) (ax_ul (ax_ul (ax_ui (ax_ui (ax_ui (ax_ui (ax_ui σ 7 1 (0 : Int32)) 8 2 (0 : Int32)) 9 4 (0 : Int32)) 0 13 (0 : Int32)) 0 16 (0 : Int32)) 0 17 (1 : Int64)) 0 18 (1 : Int64))) : ax_W shC (d + 1) mX11_text Q 69 [some (ax_r 0), none] [] σ := by
  refine ax_aload_n (q := 70) (i := 0) dX11_text_69 rfl rfl rfl ?_
  refine ax_get (q := 73) (k := 0) (j := 6) (v := ax_r 7) dX11_text_70 rfl shC_0 rfl rfl rfl (by decide) fl_X11_58 ?_
  refine ax_callVfv (q := 76) (As := []) (st := []) (σ2 := (ax_ui σ 7 1 (0 : Int32))) dX11_text_73 rfl lk_X11_142 shC_7 rfl rfl rfl rfl (Nat.le_of_ble_eq_true rfl) (f_X5_clear σ   (d := d) (by omega)) ?_
  refine ax_aload_n (q := 77) (i := 0) dX11_text_76 rfl rfl rfl ?_
  refine ax_get (q := 80) (k := 0) (j := 7) (v := ax_r 8) dX11_text_77 rfl shC_0 rfl rfl rfl (by decide) fl_X11_65 ?_
  refine ax_callVfv (q := 83) (As := []) (st := []) (σ2 := (ax_ui (ax_ui σ 7 1 (0 : Int32)) 8 2 (0 : Int32))) dX11_text_80 rfl lk_X11_145 shC_8 rfl rfl rfl rfl (Nat.le_of_ble_eq_true rfl) (f_X2_clear (ax_ui σ 7 1 (0 : Int32))   (d := d) (by omega)) ?_
  refine ax_aload_n (q := 84) (i := 0) dX11_text_83 rfl rfl rfl ?_
  refine ax_get (q := 87) (k := 0) (j := 8) (v := ax_r 9) dX11_text_84 rfl shC_0 rfl rfl rfl (by decide) fl_X11_72 ?_
  refine ax_iconst (q := 88) dX11_text_87 rfl ki_0 ?_
  refine ax_puti (q := 91) (k := 9) (j := 4) dX11_text_88 rfl shC_9 rfl rfl (by decide) fl_X11_146 rfl rfl rfl rfl ?_
  refine ax_aload_n (q := 92) (i := 0) dX11_text_91 rfl rfl rfl ?_
  refine ax_iconst (q := 93) dX11_text_92 rfl ki_0 ?_
  refine ax_puti (q := 96) (k := 0) (j := 13) dX11_text_93 rfl shC_0 rfl rfl (by decide) fl_X11_147 rfl rfl rfl rfl ?_
  refine ax_aload_n (q := 97) (i := 0) dX11_text_96 rfl rfl rfl ?_
  refine ax_iconst (q := 98) dX11_text_97 rfl ki_0 ?_
  refine ax_puti (q := 101) (k := 0) (j := 16) dX11_text_98 rfl shC_0 rfl rfl (by decide) fl_X11_151 rfl rfl rfl rfl ?_
  refine ax_aload_n (q := 102) (i := 0) dX11_text_101 rfl rfl rfl ?_
  refine ax_lconst (q := 103) (v := 1) dX11_text_102 rfl rfl ?_
  refine ax_putl (q := 106) (k := 0) (j := 17) dX11_text_103 rfl shC_0 rfl rfl (by decide) fl_X11_103 rfl rfl rfl rfl ?_
  refine ax_aload_n (q := 107) (i := 0) dX11_text_106 rfl rfl rfl ?_
  refine ax_lconst (q := 108) (v := 1) dX11_text_107 rfl rfl ?_
  refine ax_putl (q := 111) (k := 0) (j := 18) dX11_text_108 rfl shC_0 rfl rfl (by decide) fl_X11_107 rfl rfl rfl rfl ?_
  refine ax_aload_n (q := 112) (i := 0) dX11_text_111 rfl rfl rfl ?_
  refine ax_get (q := 115) (k := 0) (j := 4) (v := ax_r 5) dX11_text_112 rfl shC_0 rfl rfl rfl (by decide) fl_X11_42 ?_
  refine ax_get (q := 118) (k := 5) (j := 9) (v := ax_i (σ.1 5 9)) dX11_text_115 rfl shC_5 rfl rfl rfl (by decide) fl_X11_154 ?_
  exact ax_iret dX11_text_118 rfl rfl k1
set_option maxRecDepth 20000 in
theorem s_X11_law_0 {d : Nat} (hd : 0 ≤ d) {Q : Option ax_V → ax_S → Prop} (σ : ax_S) (a0 : Int32) (k1 : (a0 < (-1 : Int32)) → Q (some (ax_i (0 : Int32))) σ) (k2 : (¬ (a0 < (-1 : Int32))) → (a0 < (σ.1 4 4)) → Q (some (ax_i (1 : Int32))) (ax_ui σ 4 5 a0)) (k3 : (¬ (a0 < (-1 : Int32))) → (¬ (a0 < (σ.1 4 4))) → Q (some (ax_i (0 : Int32))) σ) : ax_W shC (d + 1) mX11_law Q 0 [some (ax_r 0), some (ax_i a0)] [] σ := by
  refine ax_iload_n (q := 1) (i := 1) dX11_law_0 rfl rfl rfl ?_
  refine ax_iconst (q := 2) dX11_law_1 rfl ki_m1 ?_
  refine ax_icmp_lt (tgt := 16) (q := 5) dX11_law_2 (by decide) rfl (fun c1 => ?_) (fun c1 => ?_)
  · refine ax_iconst (q := 17) dX11_law_16 rfl ki_0 ?_
    exact ax_iret dX11_law_17 rfl rfl (k1 c1)
  · refine ax_iload_n (q := 6) (i := 1) dX11_law_5 rfl rfl rfl ?_
    refine ax_aload_n (q := 7) (i := 0) dX11_law_6 rfl rfl rfl ?_
    refine ax_get (q := 10) (k := 0) (j := 3) (v := ax_r 4) dX11_law_7 rfl shC_0 rfl rfl rfl (by decide) fl_X11_35 ?_
    refine ax_get (q := 13) (k := 4) (j := 4) (v := ax_i (σ.1 4 4)) dX11_law_10 rfl shC_4 rfl rfl rfl (by decide) fl_X11_131 ?_
    refine ax_icmp_lt (tgt := 18) (q := 16) dX11_law_13 (by decide) rfl (fun c2 => ?_) (fun c2 => ?_)
    · refine ax_aload_n (q := 19) (i := 0) dX11_law_18 rfl rfl rfl ?_
      refine ax_get (q := 22) (k := 0) (j := 3) (v := ax_r 4) dX11_law_19 rfl shC_0 rfl rfl rfl (by decide) fl_X11_35 ?_
      refine ax_iload_n (q := 23) (i := 1) dX11_law_22 rfl rfl rfl ?_
      refine ax_puti (q := 26) (k := 4) (j := 5) dX11_law_23 rfl shC_4 rfl rfl (by decide) fl_X11_157 rfl rfl rfl rfl ?_
      refine ax_iconst (q := 27) dX11_law_26 rfl ki_1 ?_
      exact ax_iret dX11_law_27 rfl rfl (k2 c1 c2)
    · refine ax_iconst (q := 17) dX11_law_16 rfl ki_0 ?_
      exact ax_iret dX11_law_17 rfl rfl (k3 c1 c2)
set_option maxRecDepth 20000 in
theorem f_X11_isWire (σ : ax_S) (a0 : Int32)  {d : Nat} (hd : 1 ≤ d) : ax_Ct shC d mX11_isWire [ax_r 0, ax_i a0] (fun r u => r = some (ax_i (if ((¬ (a0 < 0)) ∧ (¬ ((σ.1 5 10) ≤ a0))) then (1 : Int32) else 0)) ∧ u = σ) σ := by
  obtain ⟨d, rfl⟩ : ∃ e, d = e + 1 := ⟨d - 1, by omega⟩
  refine ax_Ct.of (lv := [some (ax_r 0), some (ax_i a0)]) (by decide +kernel) (fun ad => Nat.le_of_ble_eq_true rfl) (fun ad => rfl) ?_
  refine ax_iload_n (q := 1) (i := 1) dX11_isWire_0 rfl rfl rfl ?_
  have K3 : ax_W shC (d + 1) mX11_isWire (fun r u => r = some (ax_i (if ((¬ (a0 < 0)) ∧ (¬ ((σ.1 5 10) ≤ a0))) then (1 : Int32) else 0)) ∧ u = σ) 20 [some (ax_r 0), some (ax_i a0)] [ax_i (if ((¬ (a0 < 0)) ∧ (¬ ((σ.1 5 10) ≤ a0))) then (1 : Int32) else 0)] σ := by
    exact ax_iret dX11_isWire_20 rfl (ax_nb _) ⟨rfl, rfl⟩
  refine ax_if_lt (tgt := 19) (q := 4) dX11_isWire_1 (by decide) rfl (fun c1 => ?_) (fun c1 => ?_)
  · refine ax_iconst (q := 20) dX11_isWire_19 rfl ki_0 ?_
    exact ax_cv (if_neg (fun z => (fun y => y c1) z.1)) K3
  · refine ax_iload_n (q := 5) (i := 1) dX11_isWire_4 rfl rfl rfl ?_
    refine ax_aload_n (q := 6) (i := 0) dX11_isWire_5 rfl rfl rfl ?_
    refine ax_get (q := 9) (k := 0) (j := 4) (v := ax_r 5) dX11_isWire_6 rfl shC_0 rfl rfl rfl (by decide) fl_X11_42 ?_
    refine ax_get (q := 12) (k := 5) (j := 10) (v := ax_i (σ.1 5 10)) dX11_isWire_9 rfl shC_5 rfl rfl rfl (by decide) fl_X11_221 ?_
    refine ax_icmp_ge (tgt := 19) (q := 15) dX11_isWire_12 (by decide) rfl (fun c2 => ?_) (fun c2 => ?_)
    · refine ax_iconst (q := 20) dX11_isWire_19 rfl ki_0 ?_
      exact ax_cv (if_neg (fun z => (fun y => y c2) z.2)) K3
    · refine ax_iconst (q := 16) dX11_isWire_15 rfl ki_1 ?_
      refine ax_goto (tgt := 20) dX11_isWire_16 (by decide) ?_
      exact ax_cv (if_pos ⟨c1, c2⟩) K3
set_option maxRecDepth 20000 in
theorem s_X11_wire_0 {d : Nat} (hd : 1 ≤ d) {Q : Option ax_V → ax_S → Prop} (σ : ax_S) (a0 : Int32) (a1 : Int32) (h1 : ((¬ (a0 < 0)) ∧ (¬ ((σ.1 5 10) ≤ a0))) → (a1 = (0 : Int32)) → vp_in a0 17) (k2 : ((¬ (a0 < 0)) ∧ (¬ ((σ.1 5 10) ≤ a0))) → (a1 = (0 : Int32)) → Q (some (ax_i (σ.1 28 (Int32.toNatClampNeg a0)))) σ) (h3 : ((¬ (a0 < 0)) ∧ (¬ ((σ.1 5 10) ≤ a0))) → (¬ (a1 = (0 : Int32))) → (a1 = (1 : Int32)) → vp_in a0 17) (k4 : ((¬ (a0 < 0)) ∧ (¬ ((σ.1 5 10) ≤ a0))) → (¬ (a1 = (0 : Int32))) → (a1 = (1 : Int32)) → Q (some (ax_i (σ.1 29 (Int32.toNatClampNeg a0)))) σ) (h5 : ((¬ (a0 < 0)) ∧ (¬ ((σ.1 5 10) ≤ a0))) → (¬ (a1 = (0 : Int32))) → (¬ (a1 = (1 : Int32))) → (a1 = (2 : Int32)) → vp_in a0 17) (k6 : ((¬ (a0 < 0)) ∧ (¬ ((σ.1 5 10) ≤ a0))) → (¬ (a1 = (0 : Int32))) → (¬ (a1 = (1 : Int32))) → (a1 = (2 : Int32)) → Q (some (ax_i (σ.1 30 (Int32.toNatClampNeg a0)))) σ) (k7 : ((¬ (a0 < 0)) ∧ (¬ ((σ.1 5 10) ≤ a0))) → (¬ (a1 = (0 : Int32))) → (¬ (a1 = (1 : Int32))) → (¬ (a1 = (2 : Int32))) → (a1 = (3 : Int32)) → Q (some (ax_i (((σ.1 5 11) >>> (a0 &&& 31)) &&& (1 : Int32)))) σ) (k8 : ((¬ (a0 < 0)) ∧ (¬ ((σ.1 5 10) ≤ a0))) → (¬ (a1 = (0 : Int32))) → (¬ (a1 = (1 : Int32))) → (¬ (a1 = (2 : Int32))) → (¬ (a1 = (3 : Int32))) → (a1 = (4 : Int32)) → ax_Ct shC d mX0_live [ax_r 5] (fun r u => ∃ x : Int32, r = some (ax_i x) ∧ ax_W shC (d + 1) mX11_wire Q 93 [none, some (ax_i a0), none] (ax_i x :: []) u) σ) (k9 : ((¬ (a0 < 0)) ∧ (¬ ((σ.1 5 10) ≤ a0))) → (¬ (a1 = (0 : Int32))) → (¬ (a1 = (1 : Int32))) → (¬ (a1 = (2 : Int32))) → (¬ (a1 = (3 : Int32))) → (¬ (a1 = (4 : Int32))) → Q (some (ax_i (-1 : Int32))) σ) (k10 : (¬ ((¬ (a0 < 0)) ∧ (¬ ((σ.1 5 10) ≤ a0)))) → Q (some (ax_i (-1 : Int32))) σ) : ax_W shC (d + 1) mX11_wire Q 0 [some (ax_r 0), some (ax_i a0), some (ax_i a1)] [] σ := by
  refine ax_aload_n (q := 1) (i := 0) dX11_wire_0 rfl rfl rfl ?_
  refine ax_iload_n (q := 2) (i := 1) dX11_wire_1 rfl rfl rfl ?_
  refine ax_callVfi (q := 5) (As := [ax_i a0]) (st := []) (x := (if ((¬ (a0 < 0)) ∧ (¬ ((σ.1 5 10) ≤ a0))) then (1 : Int32) else 0)) (σ2 := σ) dX11_wire_2 rfl lk_X11_200 shC_0 rfl rfl rfl rfl (Nat.le_of_ble_eq_true rfl) (f_X11_isWire σ a0  (d := d) (by omega)) ?_
  refine ax_if_neB (tgt := 10) (q := 8) dX11_wire_5 (by decide) rfl (fun c1 => ?_) (fun c1 => ?_)
  · refine ax_iload_n (q := 11) (i := 2) dX11_wire_10 rfl rfl rfl ?_
    by_cases c2 : (a1 = (0 : Int32))
    · refine ax_tableIn (tgt := 44) (off := 33) dX11_wire_11 (by rw [c2]; decide) (by rw [c2]; decide) (by rw [c2]; decide) (by decide) ?_
      refine ax_aload_n (q := 45) (i := 0) dX11_wire_44 rfl rfl rfl ?_
      refine ax_get (q := 48) (k := 0) (j := 4) (v := ax_r 5) dX11_wire_45 rfl shC_0 rfl rfl rfl (by decide) fl_X11_42 ?_
      refine ax_get (q := 51) (k := 5) (j := 5) (v := ax_r 28) dX11_wire_48 rfl shC_5 rfl rfl rfl (by decide) fl_X11_203 ?_
      refine ax_iload_n (q := 52) (i := 1) dX11_wire_51 rfl rfl rfl ?_
      refine ax_iald (q := 53) (a := (Int32.toNatClampNeg a0)) (v := (σ.1 28 (Int32.toNatClampNeg a0))) dX11_wire_52 rfl shC_28 (h1 c1 c2) rfl rfl ?_
      exact ax_iret dX11_wire_53 rfl rfl (k2 c1 c2)
    by_cases c3 : (a1 = (1 : Int32))
    · refine ax_tableIn (tgt := 54) (off := 43) dX11_wire_11 (by rw [c3]; decide) (by rw [c3]; decide) (by rw [c3]; decide) (by decide) ?_
      refine ax_aload_n (q := 55) (i := 0) dX11_wire_54 rfl rfl rfl ?_
      refine ax_get (q := 58) (k := 0) (j := 4) (v := ax_r 5) dX11_wire_55 rfl shC_0 rfl rfl rfl (by decide) fl_X11_42 ?_
      refine ax_get (q := 61) (k := 5) (j := 6) (v := ax_r 29) dX11_wire_58 rfl shC_5 rfl rfl rfl (by decide) fl_X11_206 ?_
      refine ax_iload_n (q := 62) (i := 1) dX11_wire_61 rfl rfl rfl ?_
      refine ax_iald (q := 63) (a := (Int32.toNatClampNeg a0)) (v := (σ.1 29 (Int32.toNatClampNeg a0))) dX11_wire_62 rfl shC_29 (h3 c1 c2 c3) rfl rfl ?_
      exact ax_iret dX11_wire_63 rfl rfl (k4 c1 c2 c3)
    by_cases c4 : (a1 = (2 : Int32))
    · refine ax_tableIn (tgt := 64) (off := 53) dX11_wire_11 (by rw [c4]; decide) (by rw [c4]; decide) (by rw [c4]; decide) (by decide) ?_
      refine ax_aload_n (q := 65) (i := 0) dX11_wire_64 rfl rfl rfl ?_
      refine ax_get (q := 68) (k := 0) (j := 4) (v := ax_r 5) dX11_wire_65 rfl shC_0 rfl rfl rfl (by decide) fl_X11_42 ?_
      refine ax_get (q := 71) (k := 5) (j := 7) (v := ax_r 30) dX11_wire_68 rfl shC_5 rfl rfl rfl (by decide) fl_X11_209 ?_
      refine ax_iload_n (q := 72) (i := 1) dX11_wire_71 rfl rfl rfl ?_
      refine ax_iald (q := 73) (a := (Int32.toNatClampNeg a0)) (v := (σ.1 30 (Int32.toNatClampNeg a0))) dX11_wire_72 rfl shC_30 (h5 c1 c2 c3 c4) rfl rfl ?_
      exact ax_iret dX11_wire_73 rfl rfl (k6 c1 c2 c3 c4)
    by_cases c5 : (a1 = (3 : Int32))
    · refine ax_tableIn (tgt := 74) (off := 63) dX11_wire_11 (by rw [c5]; decide) (by rw [c5]; decide) (by rw [c5]; decide) (by decide) ?_
      refine ax_aload_n (q := 75) (i := 0) dX11_wire_74 rfl rfl rfl ?_
      refine ax_get (q := 78) (k := 0) (j := 4) (v := ax_r 5) dX11_wire_75 rfl shC_0 rfl rfl rfl (by decide) fl_X11_42 ?_
      refine ax_get (q := 81) (k := 5) (j := 11) (v := ax_i (σ.1 5 11)) dX11_wire_78 rfl shC_5 rfl rfl rfl (by decide) fl_X11_212 ?_
      refine ax_iload_n (q := 82) (i := 1) dX11_wire_81 rfl rfl rfl ?_
      refine ax_callSfi (q := 85) (As := [ax_i (σ.1 5 11), ax_i a0]) (st := []) (x := (((σ.1 5 11) >>> (a0 &&& 31)) &&& (1 : Int32))) (σ2 := σ) dX11_wire_82 rfl lk_X11_215 rfl rfl (Nat.le_of_ble_eq_true rfl) (f_X11_bitOf (sh := shC) σ (σ.1 5 11) a0  (d := d) (by omega)) ?_
      exact ax_iret dX11_wire_85 rfl rfl (k7 c1 c2 c3 c4 c5)
    by_cases c6 : (a1 = (4 : Int32))
    · refine ax_tableIn (tgt := 86) (off := 75) dX11_wire_11 (by rw [c6]; decide) (by rw [c6]; decide) (by rw [c6]; decide) (by decide) ?_
      refine ax_aload_n (q := 87) (i := 0) dX11_wire_86 rfl rfl rfl ?_
      refine ax_get (q := 90) (k := 0) (j := 4) (v := ax_r 5) dX11_wire_87 rfl shC_0 rfl rfl rfl (by decide) fl_X11_42 ?_
      refine ax_fg (lv2 := [none, some (ax_i a0), none]) ⟨rfl, trivial⟩ ?_
      exact ax_callVci (q := 93) (As := []) (st := []) dX11_wire_90 rfl lk_X11_185 shC_5 rfl rfl rfl rfl (Nat.le_of_ble_eq_true rfl) (k8 c1 c2 c3 c4 c5 c6)
    · refine ax_tableOut (tgt := 98) dX11_wire_11 (by have z0 := ax_net (k := 0) (0) (by decide) c2; have z1 := ax_net (k := 1) (1) (by decide) c3; have z2 := ax_net (k := 2) (2) (by decide) c4; have z3 := ax_net (k := 3) (3) (by decide) c5; have z4 := ax_net (k := 4) (4) (by decide) c6; omega) (by decide) ?_
      refine ax_iconst (q := 99) dX11_wire_98 rfl ki_m1 ?_
      exact ax_iret dX11_wire_99 rfl rfl (k9 c1 c2 c3 c4 c5 c6)
  · refine ax_iconst (q := 9) dX11_wire_8 rfl ki_m1 ?_
    exact ax_iret dX11_wire_9 rfl rfl (k10 c1)
set_option maxRecDepth 20000 in
theorem s_X11_wire_93 {d : Nat} (hd : 1 ≤ d) {Q : Option ax_V → ax_S → Prop} (σ : ax_S) (x1 : Int32) (rr : Int32) (k1 : Q (some (ax_i ((rr >>> (x1 &&& 31)) &&& (1 : Int32)))) σ) : ax_W shC (d + 1) mX11_wire Q 93 [none, some (ax_i x1), none] [ax_i rr] σ := by
  refine ax_iload_n (q := 94) (i := 1) dX11_wire_93 rfl rfl rfl ?_
  refine ax_callSfi (q := 97) (As := [ax_i rr, ax_i x1]) (st := []) (x := ((rr >>> (x1 &&& 31)) &&& (1 : Int32))) (σ2 := σ) dX11_wire_94 rfl lk_X11_215 rfl rfl (Nat.le_of_ble_eq_true rfl) (f_X11_bitOf (sh := shC) σ rr x1  (d := d) (by omega)) ?_
  exact ax_iret dX11_wire_97 rfl rfl k1
set_option maxRecDepth 20000 in
theorem f_X11_status (σ : ax_S) (a0 : Int32) (h1 : (¬ (a0 < 0)) → (a0 < (5 : Int32)) → vp_in a0 5) {d : Nat} (hd : 1 ≤ d) : ax_Ct shC d mX11_status [ax_r 0, ax_i a0] (fun r u => r = some (ax_i (if (a0 < 0) then (-1 : Int32) else (if (a0 < (5 : Int32)) then (σ.1 13 (Int32.toNatClampNeg a0)) else (-1 : Int32)))) ∧ u = σ) σ := by
  obtain ⟨d, rfl⟩ : ∃ e, d = e + 1 := ⟨d - 1, by omega⟩
  refine ax_Ct.of (lv := [some (ax_r 0), some (ax_i a0)]) (by decide +kernel) (fun ad => Nat.le_of_ble_eq_true rfl) (fun ad => rfl) ?_
  refine ax_iload_n (q := 1) (i := 1) dX11_status_0 rfl rfl rfl ?_
  have K3 : ax_W shC (d + 1) mX11_status (fun r u => r = some (ax_i (if (a0 < 0) then (-1 : Int32) else (if (a0 < (5 : Int32)) then (σ.1 13 (Int32.toNatClampNeg a0)) else (-1 : Int32)))) ∧ u = σ) 19 [some (ax_r 0), some (ax_i a0)] [ax_i (if (a0 < 0) then (-1 : Int32) else (if (a0 < (5 : Int32)) then (σ.1 13 (Int32.toNatClampNeg a0)) else (-1 : Int32)))] σ := by
    exact ax_iret dX11_status_19 rfl rfl ⟨rfl, rfl⟩
  refine ax_if_lt (tgt := 9) (q := 4) dX11_status_1 (by decide) rfl (fun c1 => ?_) (fun c1 => ?_)
  · refine ax_iconst (q := 10) dX11_status_9 rfl ki_m1 ?_
    refine ax_goto (tgt := 19) dX11_status_10 (by decide) ?_
    exact ax_cv (if_pos c1) K3
  · refine ax_iload_n (q := 5) (i := 1) dX11_status_4 rfl rfl rfl ?_
    refine ax_iconst (q := 6) dX11_status_5 rfl ki_5 ?_
    refine ax_icmp_lt (tgt := 13) (q := 9) dX11_status_6 (by decide) rfl (fun c2 => ?_) (fun c2 => ?_)
    · refine ax_aload_n (q := 14) (i := 0) dX11_status_13 rfl rfl rfl ?_
      refine ax_get (q := 17) (k := 0) (j := 12) (v := ax_r 13) dX11_status_14 rfl shC_0 rfl rfl rfl (by decide) fl_X11_96 ?_
      refine ax_iload_n (q := 18) (i := 1) dX11_status_17 rfl rfl rfl ?_
      refine ax_iald (q := 19) (a := (Int32.toNatClampNeg a0)) (v := (σ.1 13 (Int32.toNatClampNeg a0))) dX11_status_18 rfl shC_13 (h1 c1 c2) rfl rfl ?_
      exact ax_cv ((if_neg c1).trans (if_pos c2)) K3
    · refine ax_iconst (q := 10) dX11_status_9 rfl ki_m1 ?_
      refine ax_goto (tgt := 19) dX11_status_10 (by decide) ?_
      exact ax_cv ((if_neg c1).trans (if_neg c2)) K3
set_option maxRecDepth 20000 in
theorem s_X11_log_0 {d : Nat} (hd : 0 ≤ d) {Q : Option ax_V → ax_S → Prop} (σ : ax_S) (a0 : Int32) (a1 : Int32) (k1 : ax_Ct shC d mX2_tells [ax_r 8, ax_i a0, ax_i a1] (fun r u => ∃ x : Int32, r = some (ax_i x) ∧ ax_W shC (d + 1) mX11_log Q 9 [none, none, none] (ax_i x :: []) u) σ) : ax_W shC (d + 1) mX11_log Q 0 [some (ax_r 0), some (ax_i a0), some (ax_i a1)] [] σ := by
  refine ax_aload_n (q := 1) (i := 0) dX11_log_0 rfl rfl rfl ?_
  refine ax_get (q := 4) (k := 0) (j := 7) (v := ax_r 8) dX11_log_1 rfl shC_0 rfl rfl rfl (by decide) fl_X11_65 ?_
  refine ax_iload_n (q := 5) (i := 1) dX11_log_4 rfl rfl rfl ?_
  refine ax_iload_n (q := 6) (i := 2) dX11_log_5 rfl rfl rfl ?_
  refine ax_fg (lv2 := [none, none, none]) trivial ?_
  exact ax_callVci (q := 9) (As := [ax_i a0, ax_i a1]) (st := []) dX11_log_6 rfl lk_X11_218 shC_8 rfl rfl rfl rfl (Nat.le_of_ble_eq_true rfl) k1
set_option maxRecDepth 20000 in
theorem s_X11_log_9 {d : Nat} (hd : 0 ≤ d) {Q : Option ax_V → ax_S → Prop} (σ : ax_S) (rr : Int32) (k1 : Q (some (ax_i rr)) σ) : ax_W shC (d + 1) mX11_log Q 9 [none, none, none] [ax_i rr] σ := by
  exact ax_iret dX11_log_9 rfl rfl k1
set_option maxRecDepth 20000 in
theorem s_X11_count_0 {d : Nat} (hd : 1 ≤ d) {Q : Option ax_V → ax_S → Prop} (σ : ax_S) (a0 : Int32) (k1 : (a0 = (0 : Int32)) → Q (some (ax_i (σ.1 5 9))) σ) (k2 : (¬ (a0 = (0 : Int32))) → (a0 = (1 : Int32)) → Q (some (ax_i (σ.1 5 10))) σ) (k3 : (¬ (a0 = (0 : Int32))) → (¬ (a0 = (1 : Int32))) → (a0 = (2 : Int32)) → Q (some (ax_i (σ.1 4 4))) σ) (k4 : (¬ (a0 = (0 : Int32))) → (¬ (a0 = (1 : Int32))) → (¬ (a0 = (2 : Int32))) → (a0 = (3 : Int32)) → Q (some (ax_i (σ.1 1 1))) σ) (k5 : (¬ (a0 = (0 : Int32))) → (¬ (a0 = (1 : Int32))) → (¬ (a0 = (2 : Int32))) → (¬ (a0 = (3 : Int32))) → (a0 = (4 : Int32)) → Q (some (ax_i (σ.1 4 5))) σ) (k6 : (¬ (a0 = (0 : Int32))) → (¬ (a0 = (1 : Int32))) → (¬ (a0 = (2 : Int32))) → (¬ (a0 = (3 : Int32))) → (¬ (a0 = (4 : Int32))) → (a0 = (5 : Int32)) → Q (some (ax_i (σ.1 5 14))) σ) (k7 : (¬ (a0 = (0 : Int32))) → (¬ (a0 = (1 : Int32))) → (¬ (a0 = (2 : Int32))) → (¬ (a0 = (3 : Int32))) → (¬ (a0 = (4 : Int32))) → (¬ (a0 = (5 : Int32))) → (a0 = (6 : Int32)) → Q (some (ax_i (σ.1 5 12))) σ) (k8 : (¬ (a0 = (0 : Int32))) → (¬ (a0 = (1 : Int32))) → (¬ (a0 = (2 : Int32))) → (¬ (a0 = (3 : Int32))) → (¬ (a0 = (4 : Int32))) → (¬ (a0 = (5 : Int32))) → (¬ (a0 = (6 : Int32))) → (a0 = (7 : Int32)) → Q (some (ax_i (σ.1 5 13))) σ) (k9 : (¬ (a0 = (0 : Int32))) → (¬ (a0 = (1 : Int32))) → (¬ (a0 = (2 : Int32))) → (¬ (a0 = (3 : Int32))) → (¬ (a0 = (4 : Int32))) → (¬ (a0 = (5 : Int32))) → (¬ (a0 = (6 : Int32))) → (¬ (a0 = (7 : Int32))) → (a0 = (8 : Int32)) → ax_Ct shC d mX0_live [ax_r 5] (fun r u => ∃ x : Int32, r = some (ax_i x) ∧ ax_W shC (d + 1) mX11_count Q 147 [none, none] (ax_i x :: []) u) σ) (k10 : (¬ (a0 = (0 : Int32))) → (¬ (a0 = (1 : Int32))) → (¬ (a0 = (2 : Int32))) → (¬ (a0 = (3 : Int32))) → (¬ (a0 = (4 : Int32))) → (¬ (a0 = (5 : Int32))) → (¬ (a0 = (6 : Int32))) → (¬ (a0 = (7 : Int32))) → (¬ (a0 = (8 : Int32))) → (a0 = (9 : Int32)) → Q (some (ax_i (σ.1 0 14))) σ) (k11 : (¬ (a0 = (0 : Int32))) → (¬ (a0 = (1 : Int32))) → (¬ (a0 = (2 : Int32))) → (¬ (a0 = (3 : Int32))) → (¬ (a0 = (4 : Int32))) → (¬ (a0 = (5 : Int32))) → (¬ (a0 = (6 : Int32))) → (¬ (a0 = (7 : Int32))) → (¬ (a0 = (8 : Int32))) → (¬ (a0 = (9 : Int32))) → (a0 = (10 : Int32)) → Q (some (ax_i (σ.1 0 15))) σ) (k12 : (¬ (a0 = (0 : Int32))) → (¬ (a0 = (1 : Int32))) → (¬ (a0 = (2 : Int32))) → (¬ (a0 = (3 : Int32))) → (¬ (a0 = (4 : Int32))) → (¬ (a0 = (5 : Int32))) → (¬ (a0 = (6 : Int32))) → (¬ (a0 = (7 : Int32))) → (¬ (a0 = (8 : Int32))) → (¬ (a0 = (9 : Int32))) → (¬ (a0 = (10 : Int32))) → (a0 = (11 : Int32)) → Q (some (ax_i (σ.1 9 4))) σ) (k13 : (¬ (a0 = (0 : Int32))) → (¬ (a0 = (1 : Int32))) → (¬ (a0 = (2 : Int32))) → (¬ (a0 = (3 : Int32))) → (¬ (a0 = (4 : Int32))) → (¬ (a0 = (5 : Int32))) → (¬ (a0 = (6 : Int32))) → (¬ (a0 = (7 : Int32))) → (¬ (a0 = (8 : Int32))) → (¬ (a0 = (9 : Int32))) → (¬ (a0 = (10 : Int32))) → (¬ (a0 = (11 : Int32))) → (a0 = (12 : Int32)) → Q (some (ax_i (σ.1 0 16))) σ) (k14 : (¬ (a0 = (0 : Int32))) → (¬ (a0 = (1 : Int32))) → (¬ (a0 = (2 : Int32))) → (¬ (a0 = (3 : Int32))) → (¬ (a0 = (4 : Int32))) → (¬ (a0 = (5 : Int32))) → (¬ (a0 = (6 : Int32))) → (¬ (a0 = (7 : Int32))) → (¬ (a0 = (8 : Int32))) → (¬ (a0 = (9 : Int32))) → (¬ (a0 = (10 : Int32))) → (¬ (a0 = (11 : Int32))) → (¬ (a0 = (12 : Int32))) → (a0 = (13 : Int32)) → Q (some (ax_i (if (σ.1 8 2) < (60 : Int32) then (σ.1 8 2) else (60 : Int32)))) σ) (k15 : (¬ (a0 = (0 : Int32))) → (¬ (a0 = (1 : Int32))) → (¬ (a0 = (2 : Int32))) → (¬ (a0 = (3 : Int32))) → (¬ (a0 = (4 : Int32))) → (¬ (a0 = (5 : Int32))) → (¬ (a0 = (6 : Int32))) → (¬ (a0 = (7 : Int32))) → (¬ (a0 = (8 : Int32))) → (¬ (a0 = (9 : Int32))) → (¬ (a0 = (10 : Int32))) → (¬ (a0 = (11 : Int32))) → (¬ (a0 = (12 : Int32))) → (¬ (a0 = (13 : Int32))) → (a0 = (14 : Int32)) → Q (some (ax_i (σ.1 7 1))) σ) (k16 : (¬ (a0 = (0 : Int32))) → (¬ (a0 = (1 : Int32))) → (¬ (a0 = (2 : Int32))) → (¬ (a0 = (3 : Int32))) → (¬ (a0 = (4 : Int32))) → (¬ (a0 = (5 : Int32))) → (¬ (a0 = (6 : Int32))) → (¬ (a0 = (7 : Int32))) → (¬ (a0 = (8 : Int32))) → (¬ (a0 = (9 : Int32))) → (¬ (a0 = (10 : Int32))) → (¬ (a0 = (11 : Int32))) → (¬ (a0 = (12 : Int32))) → (¬ (a0 = (13 : Int32))) → (¬ (a0 = (14 : Int32))) → Q (some (ax_i (-1000000 : Int32))) σ) : ax_W shC (d + 1) mX11_count Q 0 [some (ax_r 0), some (ax_i a0)] [] σ := by
  refine ax_iload_n (q := 1) (i := 1) dX11_count_0 rfl rfl rfl ?_
  by_cases c1 : (a0 = (0 : Int32))
  · refine ax_tableIn (tgt := 76) (off := 75) dX11_count_1 (by rw [c1]; decide) (by rw [c1]; decide) (by rw [c1]; decide) (by decide) ?_
    refine ax_aload_n (q := 77) (i := 0) dX11_count_76 rfl rfl rfl ?_
    refine ax_get (q := 80) (k := 0) (j := 4) (v := ax_r 5) dX11_count_77 rfl shC_0 rfl rfl rfl (by decide) fl_X11_42 ?_
    refine ax_get (q := 83) (k := 5) (j := 9) (v := ax_i (σ.1 5 9)) dX11_count_80 rfl shC_5 rfl rfl rfl (by decide) fl_X11_154 ?_
    exact ax_iret dX11_count_83 rfl rfl (k1 c1)
  by_cases c2 : (a0 = (1 : Int32))
  · refine ax_tableIn (tgt := 84) (off := 83) dX11_count_1 (by rw [c2]; decide) (by rw [c2]; decide) (by rw [c2]; decide) (by decide) ?_
    refine ax_aload_n (q := 85) (i := 0) dX11_count_84 rfl rfl rfl ?_
    refine ax_get (q := 88) (k := 0) (j := 4) (v := ax_r 5) dX11_count_85 rfl shC_0 rfl rfl rfl (by decide) fl_X11_42 ?_
    refine ax_get (q := 91) (k := 5) (j := 10) (v := ax_i (σ.1 5 10)) dX11_count_88 rfl shC_5 rfl rfl rfl (by decide) fl_X11_221 ?_
    exact ax_iret dX11_count_91 rfl rfl (k2 c1 c2)
  by_cases c3 : (a0 = (2 : Int32))
  · refine ax_tableIn (tgt := 92) (off := 91) dX11_count_1 (by rw [c3]; decide) (by rw [c3]; decide) (by rw [c3]; decide) (by decide) ?_
    refine ax_aload_n (q := 93) (i := 0) dX11_count_92 rfl rfl rfl ?_
    refine ax_get (q := 96) (k := 0) (j := 3) (v := ax_r 4) dX11_count_93 rfl shC_0 rfl rfl rfl (by decide) fl_X11_35 ?_
    refine ax_get (q := 99) (k := 4) (j := 4) (v := ax_i (σ.1 4 4)) dX11_count_96 rfl shC_4 rfl rfl rfl (by decide) fl_X11_131 ?_
    exact ax_iret dX11_count_99 rfl rfl (k3 c1 c2 c3)
  by_cases c4 : (a0 = (3 : Int32))
  · refine ax_tableIn (tgt := 100) (off := 99) dX11_count_1 (by rw [c4]; decide) (by rw [c4]; decide) (by rw [c4]; decide) (by decide) ?_
    refine ax_aload_n (q := 101) (i := 0) dX11_count_100 rfl rfl rfl ?_
    refine ax_get (q := 104) (k := 0) (j := 0) (v := ax_r 1) dX11_count_101 rfl shC_0 rfl rfl rfl (by decide) fl_X11_10 ?_
    refine ax_get (q := 107) (k := 1) (j := 1) (v := ax_i (σ.1 1 1)) dX11_count_104 rfl shC_1 rfl rfl rfl (by decide) fl_X11_114 ?_
    exact ax_iret dX11_count_107 rfl rfl (k4 c1 c2 c3 c4)
  by_cases c5 : (a0 = (4 : Int32))
  · refine ax_tableIn (tgt := 108) (off := 107) dX11_count_1 (by rw [c5]; decide) (by rw [c5]; decide) (by rw [c5]; decide) (by decide) ?_
    refine ax_aload_n (q := 109) (i := 0) dX11_count_108 rfl rfl rfl ?_
    refine ax_get (q := 112) (k := 0) (j := 3) (v := ax_r 4) dX11_count_109 rfl shC_0 rfl rfl rfl (by decide) fl_X11_35 ?_
    refine ax_get (q := 115) (k := 4) (j := 5) (v := ax_i (σ.1 4 5)) dX11_count_112 rfl shC_4 rfl rfl rfl (by decide) fl_X11_157 ?_
    exact ax_iret dX11_count_115 rfl rfl (k5 c1 c2 c3 c4 c5)
  by_cases c6 : (a0 = (5 : Int32))
  · refine ax_tableIn (tgt := 116) (off := 115) dX11_count_1 (by rw [c6]; decide) (by rw [c6]; decide) (by rw [c6]; decide) (by decide) ?_
    refine ax_aload_n (q := 117) (i := 0) dX11_count_116 rfl rfl rfl ?_
    refine ax_get (q := 120) (k := 0) (j := 4) (v := ax_r 5) dX11_count_117 rfl shC_0 rfl rfl rfl (by decide) fl_X11_42 ?_
    refine ax_get (q := 123) (k := 5) (j := 14) (v := ax_i (σ.1 5 14)) dX11_count_120 rfl shC_5 rfl rfl rfl (by decide) fl_X11_224 ?_
    exact ax_iret dX11_count_123 rfl rfl (k6 c1 c2 c3 c4 c5 c6)
  by_cases c7 : (a0 = (6 : Int32))
  · refine ax_tableIn (tgt := 124) (off := 123) dX11_count_1 (by rw [c7]; decide) (by rw [c7]; decide) (by rw [c7]; decide) (by decide) ?_
    refine ax_aload_n (q := 125) (i := 0) dX11_count_124 rfl rfl rfl ?_
    refine ax_get (q := 128) (k := 0) (j := 4) (v := ax_r 5) dX11_count_125 rfl shC_0 rfl rfl rfl (by decide) fl_X11_42 ?_
    refine ax_get (q := 131) (k := 5) (j := 12) (v := ax_i (σ.1 5 12)) dX11_count_128 rfl shC_5 rfl rfl rfl (by decide) fl_X11_227 ?_
    exact ax_iret dX11_count_131 rfl rfl (k7 c1 c2 c3 c4 c5 c6 c7)
  by_cases c8 : (a0 = (7 : Int32))
  · refine ax_tableIn (tgt := 132) (off := 131) dX11_count_1 (by rw [c8]; decide) (by rw [c8]; decide) (by rw [c8]; decide) (by decide) ?_
    refine ax_aload_n (q := 133) (i := 0) dX11_count_132 rfl rfl rfl ?_
    refine ax_get (q := 136) (k := 0) (j := 4) (v := ax_r 5) dX11_count_133 rfl shC_0 rfl rfl rfl (by decide) fl_X11_42 ?_
    refine ax_get (q := 139) (k := 5) (j := 13) (v := ax_i (σ.1 5 13)) dX11_count_136 rfl shC_5 rfl rfl rfl (by decide) fl_X11_230 ?_
    exact ax_iret dX11_count_139 rfl rfl (k8 c1 c2 c3 c4 c5 c6 c7 c8)
  by_cases c9 : (a0 = (8 : Int32))
  · refine ax_tableIn (tgt := 140) (off := 139) dX11_count_1 (by rw [c9]; decide) (by rw [c9]; decide) (by rw [c9]; decide) (by decide) ?_
    refine ax_aload_n (q := 141) (i := 0) dX11_count_140 rfl rfl rfl ?_
    refine ax_get (q := 144) (k := 0) (j := 4) (v := ax_r 5) dX11_count_141 rfl shC_0 rfl rfl rfl (by decide) fl_X11_42 ?_
    refine ax_fg (lv2 := [none, none]) trivial ?_
    exact ax_callVci (q := 147) (As := []) (st := []) dX11_count_144 rfl lk_X11_185 shC_5 rfl rfl rfl rfl (Nat.le_of_ble_eq_true rfl) (k9 c1 c2 c3 c4 c5 c6 c7 c8 c9)
  by_cases c10 : (a0 = (9 : Int32))
  · refine ax_tableIn (tgt := 148) (off := 147) dX11_count_1 (by rw [c10]; decide) (by rw [c10]; decide) (by rw [c10]; decide) (by decide) ?_
    refine ax_aload_n (q := 149) (i := 0) dX11_count_148 rfl rfl rfl ?_
    refine ax_get (q := 152) (k := 0) (j := 14) (v := ax_i (σ.1 0 14)) dX11_count_149 rfl shC_0 rfl rfl rfl (by decide) fl_X11_99 ?_
    exact ax_iret dX11_count_152 rfl rfl (k10 c1 c2 c3 c4 c5 c6 c7 c8 c9 c10)
  by_cases c11 : (a0 = (10 : Int32))
  · refine ax_tableIn (tgt := 153) (off := 152) dX11_count_1 (by rw [c11]; decide) (by rw [c11]; decide) (by rw [c11]; decide) (by decide) ?_
    refine ax_aload_n (q := 154) (i := 0) dX11_count_153 rfl rfl rfl ?_
    refine ax_get (q := 157) (k := 0) (j := 15) (v := ax_i (σ.1 0 15)) dX11_count_154 rfl shC_0 rfl rfl rfl (by decide) fl_X11_233 ?_
    exact ax_iret dX11_count_157 rfl rfl (k11 c1 c2 c3 c4 c5 c6 c7 c8 c9 c10 c11)
  by_cases c12 : (a0 = (11 : Int32))
  · refine ax_tableIn (tgt := 158) (off := 157) dX11_count_1 (by rw [c12]; decide) (by rw [c12]; decide) (by rw [c12]; decide) (by decide) ?_
    refine ax_aload_n (q := 159) (i := 0) dX11_count_158 rfl rfl rfl ?_
    refine ax_get (q := 162) (k := 0) (j := 8) (v := ax_r 9) dX11_count_159 rfl shC_0 rfl rfl rfl (by decide) fl_X11_72 ?_
    refine ax_get (q := 165) (k := 9) (j := 4) (v := ax_i (σ.1 9 4)) dX11_count_162 rfl shC_9 rfl rfl rfl (by decide) fl_X11_146 ?_
    exact ax_iret dX11_count_165 rfl rfl (k12 c1 c2 c3 c4 c5 c6 c7 c8 c9 c10 c11 c12)
  by_cases c13 : (a0 = (12 : Int32))
  · refine ax_tableIn (tgt := 166) (off := 165) dX11_count_1 (by rw [c13]; decide) (by rw [c13]; decide) (by rw [c13]; decide) (by decide) ?_
    refine ax_aload_n (q := 167) (i := 0) dX11_count_166 rfl rfl rfl ?_
    refine ax_get (q := 170) (k := 0) (j := 16) (v := ax_i (σ.1 0 16)) dX11_count_167 rfl shC_0 rfl rfl rfl (by decide) fl_X11_151 ?_
    exact ax_iret dX11_count_170 rfl rfl (k13 c1 c2 c3 c4 c5 c6 c7 c8 c9 c10 c11 c12 c13)
  by_cases c14 : (a0 = (13 : Int32))
  · refine ax_tableIn (tgt := 171) (off := 170) dX11_count_1 (by rw [c14]; decide) (by rw [c14]; decide) (by rw [c14]; decide) (by decide) ?_
    refine ax_aload_n (q := 172) (i := 0) dX11_count_171 rfl rfl rfl ?_
    refine ax_get (q := 175) (k := 0) (j := 7) (v := ax_r 8) dX11_count_172 rfl shC_0 rfl rfl rfl (by decide) fl_X11_65 ?_
    refine ax_callVfi (q := 178) (As := []) (st := []) (x := (if (σ.1 8 2) < (60 : Int32) then (σ.1 8 2) else (60 : Int32))) (σ2 := σ) dX11_count_175 rfl lk_X11_236 shC_8 rfl rfl rfl rfl (Nat.le_of_ble_eq_true rfl) (f_X2_length σ   (d := d) (by omega)) ?_
    exact ax_iret dX11_count_178 rfl rfl (k14 c1 c2 c3 c4 c5 c6 c7 c8 c9 c10 c11 c12 c13 c14)
  by_cases c15 : (a0 = (14 : Int32))
  · refine ax_tableIn (tgt := 179) (off := 178) dX11_count_1 (by rw [c15]; decide) (by rw [c15]; decide) (by rw [c15]; decide) (by decide) ?_
    refine ax_aload_n (q := 180) (i := 0) dX11_count_179 rfl rfl rfl ?_
    refine ax_get (q := 183) (k := 0) (j := 6) (v := ax_r 7) dX11_count_180 rfl shC_0 rfl rfl rfl (by decide) fl_X11_58 ?_
    refine ax_get (q := 186) (k := 7) (j := 1) (v := ax_i (σ.1 7 1)) dX11_count_183 rfl shC_7 rfl rfl rfl (by decide) fl_X11_238 ?_
    exact ax_iret dX11_count_186 rfl rfl (k15 c1 c2 c3 c4 c5 c6 c7 c8 c9 c10 c11 c12 c13 c14 c15)
  · refine ax_tableOut (tgt := 187) dX11_count_1 (by have z0 := ax_net (k := 0) (0) (by decide) c1; have z1 := ax_net (k := 1) (1) (by decide) c2; have z2 := ax_net (k := 2) (2) (by decide) c3; have z3 := ax_net (k := 3) (3) (by decide) c4; have z4 := ax_net (k := 4) (4) (by decide) c5; have z5 := ax_net (k := 5) (5) (by decide) c6; have z6 := ax_net (k := 6) (6) (by decide) c7; have z7 := ax_net (k := 7) (7) (by decide) c8; have z8 := ax_net (k := 8) (8) (by decide) c9; have z9 := ax_net (k := 9) (9) (by decide) c10; have z10 := ax_net (k := 10) (10) (by decide) c11; have z11 := ax_net (k := 11) (11) (by decide) c12; have z12 := ax_net (k := 12) (12) (by decide) c13; have z13 := ax_net (k := 13) (13) (by decide) c14; have z14 := ax_net (k := 14) (14) (by decide) c15; omega) (by decide) ?_
    refine ax_ldc (q := 189) dX11_count_187 rfl kc_X11_241 ?_
    exact ax_iret dX11_count_189 rfl rfl (k16 c1 c2 c3 c4 c5 c6 c7 c8 c9 c10 c11 c12 c13 c14 c15)
set_option maxRecDepth 20000 in
theorem s_X11_count_147 {d : Nat} (hd : 0 ≤ d) {Q : Option ax_V → ax_S → Prop} (σ : ax_S) (rr : Int32) (k1 : Q (some (ax_i rr)) σ) : ax_W shC (d + 1) mX11_count Q 147 [none, none] [ax_i rr] σ := by
  exact ax_iret dX11_count_147 rfl rfl k1
set_option maxRecDepth 20000 in
theorem f_X11_isHouse (σ : ax_S) (a0 : Int32)  {d : Nat} (hd : 1 ≤ d) : ax_Ct shC d mX11_isHouse [ax_r 0, ax_i a0] (fun r u => r = some (ax_i (if ((¬ (a0 < 0)) ∧ (¬ ((σ.1 5 9) ≤ a0))) then (1 : Int32) else 0)) ∧ u = σ) σ := by
  obtain ⟨d, rfl⟩ : ∃ e, d = e + 1 := ⟨d - 1, by omega⟩
  refine ax_Ct.of (lv := [some (ax_r 0), some (ax_i a0)]) (by decide +kernel) (fun ad => Nat.le_of_ble_eq_true rfl) (fun ad => rfl) ?_
  refine ax_iload_n (q := 1) (i := 1) dX11_isHouse_0 rfl rfl rfl ?_
  have K3 : ax_W shC (d + 1) mX11_isHouse (fun r u => r = some (ax_i (if ((¬ (a0 < 0)) ∧ (¬ ((σ.1 5 9) ≤ a0))) then (1 : Int32) else 0)) ∧ u = σ) 20 [some (ax_r 0), some (ax_i a0)] [ax_i (if ((¬ (a0 < 0)) ∧ (¬ ((σ.1 5 9) ≤ a0))) then (1 : Int32) else 0)] σ := by
    exact ax_iret dX11_isHouse_20 rfl (ax_nb _) ⟨rfl, rfl⟩
  refine ax_if_lt (tgt := 19) (q := 4) dX11_isHouse_1 (by decide) rfl (fun c1 => ?_) (fun c1 => ?_)
  · refine ax_iconst (q := 20) dX11_isHouse_19 rfl ki_0 ?_
    exact ax_cv (if_neg (fun z => (fun y => y c1) z.1)) K3
  · refine ax_iload_n (q := 5) (i := 1) dX11_isHouse_4 rfl rfl rfl ?_
    refine ax_aload_n (q := 6) (i := 0) dX11_isHouse_5 rfl rfl rfl ?_
    refine ax_get (q := 9) (k := 0) (j := 4) (v := ax_r 5) dX11_isHouse_6 rfl shC_0 rfl rfl rfl (by decide) fl_X11_42 ?_
    refine ax_get (q := 12) (k := 5) (j := 9) (v := ax_i (σ.1 5 9)) dX11_isHouse_9 rfl shC_5 rfl rfl rfl (by decide) fl_X11_154 ?_
    refine ax_icmp_ge (tgt := 19) (q := 15) dX11_isHouse_12 (by decide) rfl (fun c2 => ?_) (fun c2 => ?_)
    · refine ax_iconst (q := 20) dX11_isHouse_19 rfl ki_0 ?_
      exact ax_cv (if_neg (fun z => (fun y => y c2) z.2)) K3
    · refine ax_iconst (q := 16) dX11_isHouse_15 rfl ki_1 ?_
      refine ax_goto (tgt := 20) dX11_isHouse_16 (by decide) ?_
      exact ax_cv (if_pos ⟨c1, c2⟩) K3
set_option maxRecDepth 20000 in
theorem f_X11_isStroke {sh : List ax_H} (σ : ax_S) (a0 : Int32)  {d : Nat} (hd : 1 ≤ d) : ax_Ct sh d mX11_isStroke [ax_i a0] (fun r u => r = some (ax_i (if ((¬ (a0 < (1 : Int32))) ∧ (¬ ((999 : Int32) < a0))) then (1 : Int32) else 0)) ∧ u = σ) σ := by
  obtain ⟨d, rfl⟩ : ∃ e, d = e + 1 := ⟨d - 1, by omega⟩
  refine ax_Ct.of (lv := [some (ax_i a0)]) (by decide +kernel) (fun ad => Nat.le_of_ble_eq_true rfl) (fun ad => rfl) ?_
  refine ax_iload_n (q := 1) (i := 0) dX11_isStroke_0 rfl rfl rfl ?_
  refine ax_iconst (q := 2) dX11_isStroke_1 rfl ki_1 ?_
  have K3 : ax_W sh (d + 1) mX11_isStroke (fun r u => r = some (ax_i (if ((¬ (a0 < (1 : Int32))) ∧ (¬ ((999 : Int32) < a0))) then (1 : Int32) else 0)) ∧ u = σ) 17 [some (ax_i a0)] [ax_i (if ((¬ (a0 < (1 : Int32))) ∧ (¬ ((999 : Int32) < a0))) then (1 : Int32) else 0)] σ := by
    exact ax_iret dX11_isStroke_17 rfl (ax_nb _) ⟨rfl, rfl⟩
  refine ax_icmp_lt (tgt := 16) (q := 5) dX11_isStroke_2 (by decide) rfl (fun c1 => ?_) (fun c1 => ?_)
  · refine ax_iconst (q := 17) dX11_isStroke_16 rfl ki_0 ?_
    exact ax_cv (if_neg (fun z => (fun y => y c1) z.1)) K3
  · refine ax_iload_n (q := 6) (i := 0) dX11_isStroke_5 rfl rfl rfl ?_
    refine ax_sipush (q := 9) dX11_isStroke_6 rfl ks_999 ?_
    refine ax_icmp_gt (tgt := 16) (q := 12) dX11_isStroke_9 (by decide) rfl (fun c2 => ?_) (fun c2 => ?_)
    · refine ax_iconst (q := 17) dX11_isStroke_16 rfl ki_0 ?_
      exact ax_cv (if_neg (fun z => (fun y => y c2) z.2)) K3
    · refine ax_iconst (q := 13) dX11_isStroke_12 rfl ki_1 ?_
      refine ax_goto (tgt := 17) dX11_isStroke_13 (by decide) ?_
      exact ax_cv (if_pos ⟨c1, c2⟩) K3
set_option maxRecDepth 20000 in
theorem f_X11_refuse (σ : ax_S) (a0 : Int32) (h1 : vp_in a0 5) {d : Nat} (hd : 1 ≤ d) : ax_Ct shC d mX11_refuse [ax_r 0, ax_i a0] (fun r u => r = some (ax_i (-1 : Int32)) ∧ u = (ax_ui σ 13 (Int32.toNatClampNeg a0) ((σ.1 13 (Int32.toNatClampNeg a0)) + (1 : Int32)))) σ := by
  obtain ⟨d, rfl⟩ : ∃ e, d = e + 1 := ⟨d - 1, by omega⟩
  refine ax_Ct.of (lv := [some (ax_r 0), some (ax_i a0)]) (by decide +kernel) (fun ad => Nat.le_of_ble_eq_true rfl) (fun ad => rfl) ?_
  refine ax_aload_n (q := 1) (i := 0) dX11_refuse_0 rfl rfl rfl ?_
  refine ax_get (q := 4) (k := 0) (j := 12) (v := ax_r 13) dX11_refuse_1 rfl shC_0 rfl rfl rfl (by decide) fl_X11_96 ?_
  refine ax_iload_n (q := 5) (i := 1) dX11_refuse_4 rfl rfl rfl ?_
  refine ax_dup2_11 (q := 6) dX11_refuse_5 rfl ?_
  refine ax_iald (q := 7) (a := (Int32.toNatClampNeg a0)) (v := (σ.1 13 (Int32.toNatClampNeg a0))) dX11_refuse_6 rfl shC_13 h1 rfl rfl ?_
  refine ax_iconst (q := 8) dX11_refuse_7 rfl ki_1 ?_
  refine ax_iadd (q := 9) dX11_refuse_8 rfl ?_
  refine ax_iast (q := 10) (a := (Int32.toNatClampNeg a0)) dX11_refuse_9 rfl shC_13 h1 rfl ?_
  refine ax_iconst (q := 11) dX11_refuse_10 rfl ki_m1 ?_
  exact ax_iret dX11_refuse_11 rfl rfl ⟨rfl, rfl⟩
set_option maxRecDepth 20000 in
theorem s_X11_remember_0 {d : Nat} (hd : 0 ≤ d) {Q : Option ax_V → ax_S → Prop} (σ : ax_S)  (k1 : ax_Ct shC d mX5_remember [ax_r 7, ax_r 5, ax_i (σ.1 8 2)] (fun r u => r = none ∧ ax_W shC (d + 1) mX11_remember Q 18 [none] [] u) σ) : ax_W shC (d + 1) mX11_remember Q 0 [some (ax_r 0)] [] σ := by
  refine ax_aload_n (q := 1) (i := 0) dX11_remember_0 rfl rfl rfl ?_
  refine ax_get (q := 4) (k := 0) (j := 6) (v := ax_r 7) dX11_remember_1 rfl shC_0 rfl rfl rfl (by decide) fl_X11_58 ?_
  refine ax_aload_n (q := 5) (i := 0) dX11_remember_4 rfl rfl rfl ?_
  refine ax_get (q := 8) (k := 0) (j := 4) (v := ax_r 5) dX11_remember_5 rfl shC_0 rfl rfl rfl (by decide) fl_X11_42 ?_
  refine ax_aload_n (q := 9) (i := 0) dX11_remember_8 rfl rfl rfl ?_
  refine ax_get (q := 12) (k := 0) (j := 7) (v := ax_r 8) dX11_remember_9 rfl shC_0 rfl rfl rfl (by decide) fl_X11_65 ?_
  refine ax_get (q := 15) (k := 8) (j := 2) (v := ax_i (σ.1 8 2)) dX11_remember_12 rfl shC_8 rfl rfl rfl (by decide) fl_X11_297 ?_
  refine ax_fg (lv2 := [none]) trivial ?_
  exact ax_callVcv (q := 18) (As := [ax_r 5, ax_i (σ.1 8 2)]) (st := []) dX11_remember_15 rfl lk_X11_435 shC_7 rfl rfl rfl rfl (Nat.le_of_ble_eq_true rfl) k1
set_option maxRecDepth 20000 in
theorem s_X11_remember_18 {d : Nat} (hd : 0 ≤ d) {Q : Option ax_V → ax_S → Prop} (σ : ax_S)  (k1 : Q none σ) : ax_W shC (d + 1) mX11_remember Q 18 [none] [] σ := by
  exact ax_vret dX11_remember_18 rfl k1
set_option maxRecDepth 20000 in
theorem s_X11_strikeNow_0 {d : Nat} (hd : 0 ≤ d) {Q : Option ax_V → ax_S → Prop} (σ : ax_S) (a0 : Int32) (a1 : Int32) (k1 : ax_Ct shC d mX0_live [ax_r 5] (fun r u => ∃ x : Int32, r = some (ax_i x) ∧ ax_W shC (d + 1) mX11_strikeNow Q 11 [some (ax_r 0), some (ax_i a0), some (ax_i a1), none] (ax_i x :: [ax_r 6]) u) σ) : ax_W shC (d + 1) mX11_strikeNow Q 0 [some (ax_r 0), some (ax_i a0), some (ax_i a1), none] [] σ := by
  refine ax_aload_n (q := 1) (i := 0) dX11_strikeNow_0 rfl rfl rfl ?_
  refine ax_get (q := 4) (k := 0) (j := 5) (v := ax_r 6) dX11_strikeNow_1 rfl shC_0 rfl rfl rfl (by decide) fl_X11_51 ?_
  refine ax_aload_n (q := 5) (i := 0) dX11_strikeNow_4 rfl rfl rfl ?_
  refine ax_get (q := 8) (k := 0) (j := 4) (v := ax_r 5) dX11_strikeNow_5 rfl shC_0 rfl rfl rfl (by decide) fl_X11_42 ?_
  exact ax_callVci (q := 11) (As := []) (st := [ax_r 6]) dX11_strikeNow_8 rfl lk_X11_185 shC_5 rfl rfl rfl rfl (Nat.le_of_ble_eq_true rfl) k1
set_option maxRecDepth 20000 in
theorem s_X11_strikeNow_11 {d : Nat} (hd : 0 ≤ d) {Q : Option ax_V → ax_S → Prop} (σ : ax_S) (x1 : Int32) (x2 : Int32) (rr : Int32) (k1 : ax_Ct shC d mX8_fall [ax_r 6, ax_i rr, ax_i x1, ax_i x2] (fun r u => ∃ x : Int32, r = some (ax_i x) ∧ ax_W shC (d + 1) mX11_strikeNow Q 16 [some (ax_r 0), some (ax_i x1), some (ax_i x2), none] (ax_i x :: []) u) σ) : ax_W shC (d + 1) mX11_strikeNow Q 11 [some (ax_r 0), some (ax_i x1), some (ax_i x2), none] [ax_i rr, ax_r 6] σ := by
  refine ax_iload_n (q := 12) (i := 1) dX11_strikeNow_11 rfl rfl rfl ?_
  refine ax_iload_n (q := 13) (i := 2) dX11_strikeNow_12 rfl rfl rfl ?_
  exact ax_callVci (q := 16) (As := [ax_i rr, ax_i x1, ax_i x2]) (st := []) dX11_strikeNow_13 rfl lk_X11_311 shC_6 rfl rfl rfl rfl (Nat.le_of_ble_eq_true rfl) k1
set_option maxRecDepth 20000 in
theorem s_X11_strikeNow_16 {d : Nat} (hd : 0 ≤ d) {Q : Option ax_V → ax_S → Prop} (σ : ax_S) (x1 : Int32) (x2 : Int32) (rr : Int32) (k1 : ax_Ct shC d mX0_scorch [ax_r 5, ax_i rr] (fun r u => r = none ∧ ax_W shC (d + 1) mX11_strikeNow Q 25 [some (ax_r 0), some (ax_i x1), some (ax_i x2), some (ax_i rr)] [] u) σ) : ax_W shC (d + 1) mX11_strikeNow Q 16 [some (ax_r 0), some (ax_i x1), some (ax_i x2), none] [ax_i rr] σ := by
  refine ax_istore_n (q := 17) (i := 3) (lv2 := [some (ax_r 0), some (ax_i x1), some (ax_i x2), some (ax_i rr)]) dX11_strikeNow_16 rfl rfl (by decide) rfl rfl ?_
  refine ax_aload_n (q := 18) (i := 0) dX11_strikeNow_17 rfl rfl rfl ?_
  refine ax_get (q := 21) (k := 0) (j := 4) (v := ax_r 5) dX11_strikeNow_18 rfl shC_0 rfl rfl rfl (by decide) fl_X11_42 ?_
  refine ax_iload_n (q := 22) (i := 3) dX11_strikeNow_21 rfl rfl rfl ?_
  exact ax_callVcv (q := 25) (As := [ax_i rr]) (st := []) dX11_strikeNow_22 rfl lk_X11_438 shC_5 rfl rfl rfl rfl (Nat.le_of_ble_eq_true rfl) k1
set_option maxRecDepth 20000 in
theorem s_X11_strikeNow_25 {d : Nat} (hd : 1 ≤ d) {Q : Option ax_V → ax_S → Prop} (σ : ax_S) (x1 : Int32) (x2 : Int32) (x3 : Int32) (h1 : vp_in (((σ.1 8 2) - (σ.1 8 2) / (128 : Int32) * (128 : Int32)) * (3 : Int32)) 384) (h2 : vp_in ((((σ.1 8 2) - (σ.1 8 2) / (128 : Int32) * (128 : Int32)) * (3 : Int32)) + (1 : Int32)) 384) (h3 : vp_in ((((σ.1 8 2) - (σ.1 8 2) / (128 : Int32) * (128 : Int32)) * (3 : Int32)) + (2 : Int32)) 384) (k4 : Q (some (ax_i x3)) (ax_ui (ax_ui (ax_ui (ax_ui σ 37 (Int32.toNatClampNeg (((σ.1 8 2) - (σ.1 8 2) / (128 : Int32) * (128 : Int32)) * (3 : Int32))) x1) 37 (Int32.toNatClampNeg ((((σ.1 8 2) - (σ.1 8 2) / (128 : Int32) * (128 : Int32)) * (3 : Int32)) + (1 : Int32))) x2) 37 (Int32.toNatClampNeg ((((σ.1 8 2) - (σ.1 8 2) / (128 : Int32) * (128 : Int32)) * (3 : Int32)) + (2 : Int32))) x3) 8 2 ((σ.1 8 2) + (1 : Int32)))) : ax_W shC (d + 1) mX11_strikeNow Q 25 [some (ax_r 0), some (ax_i x1), some (ax_i x2), some (ax_i x3)] [] σ := by
  refine ax_aload_n (q := 26) (i := 0) dX11_strikeNow_25 rfl rfl rfl ?_
  refine ax_get (q := 29) (k := 0) (j := 7) (v := ax_r 8) dX11_strikeNow_26 rfl shC_0 rfl rfl rfl (by decide) fl_X11_65 ?_
  refine ax_iload_n (q := 30) (i := 1) dX11_strikeNow_29 rfl rfl rfl ?_
  refine ax_iload_n (q := 31) (i := 2) dX11_strikeNow_30 rfl rfl rfl ?_
  refine ax_iload_n (q := 32) (i := 3) dX11_strikeNow_31 rfl rfl rfl ?_
  refine ax_callVfv (q := 35) (As := [ax_i x1, ax_i x2, ax_i x3]) (st := []) (σ2 := (ax_ui (ax_ui (ax_ui (ax_ui σ 37 (Int32.toNatClampNeg (((σ.1 8 2) - (σ.1 8 2) / (128 : Int32) * (128 : Int32)) * (3 : Int32))) x1) 37 (Int32.toNatClampNeg ((((σ.1 8 2) - (σ.1 8 2) / (128 : Int32) * (128 : Int32)) * (3 : Int32)) + (1 : Int32))) x2) 37 (Int32.toNatClampNeg ((((σ.1 8 2) - (σ.1 8 2) / (128 : Int32) * (128 : Int32)) * (3 : Int32)) + (2 : Int32))) x3) 8 2 ((σ.1 8 2) + (1 : Int32)))) dX11_strikeNow_32 rfl lk_X11_441 shC_8 rfl rfl rfl rfl (Nat.le_of_ble_eq_true rfl) (f_X2_add σ x1 x2 x3 (by decide) h1 h2 h3 (d := d) (by omega)) ?_
  refine ax_iload_n (q := 36) (i := 3) dX11_strikeNow_35 rfl rfl rfl ?_
  exact ax_iret dX11_strikeNow_36 rfl rfl k4
set_option maxRecDepth 20000 in
theorem s_X11_strike_0 {d : Nat} (hd : 1 ≤ d) {Q : Option ax_V → ax_S → Prop} (σ : ax_S) (a0 : Int32) (a1 : Int32) (k1 : ((¬ (a0 < 0)) ∧ (¬ ((σ.1 5 9) ≤ a0))) → ((¬ (a1 < (1 : Int32))) ∧ (¬ ((999 : Int32) < a1))) → ax_Ct shC d mX11_remember [ax_r 0] (fun r u => r = none ∧ ax_W shC (d + 1) mX11_strike Q 31 [some (ax_r 0), some (ax_i a0), some (ax_i a1)] [] u) σ) (k2 : ((¬ (a0 < 0)) ∧ (¬ ((σ.1 5 9) ≤ a0))) → (¬ ((¬ (a1 < (1 : Int32))) ∧ (¬ ((999 : Int32) < a1)))) → Q (some (ax_i (-1 : Int32))) (ax_ui σ 13 1 ((σ.1 13 1) + (1 : Int32)))) (k3 : (¬ ((¬ (a0 < 0)) ∧ (¬ ((σ.1 5 9) ≤ a0)))) → Q (some (ax_i (-1 : Int32))) (ax_ui σ 13 0 ((σ.1 13 0) + (1 : Int32)))) : ax_W shC (d + 1) mX11_strike Q 0 [some (ax_r 0), some (ax_i a0), some (ax_i a1)] [] σ := by
  refine ax_aload_n (q := 1) (i := 0) dX11_strike_0 rfl rfl rfl ?_
  refine ax_iload_n (q := 2) (i := 1) dX11_strike_1 rfl rfl rfl ?_
  refine ax_callVfi (q := 5) (As := [ax_i a0]) (st := []) (x := (if ((¬ (a0 < 0)) ∧ (¬ ((σ.1 5 9) ≤ a0))) then (1 : Int32) else 0)) (σ2 := σ) dX11_strike_2 rfl lk_X11_160 shC_0 rfl rfl rfl rfl (Nat.le_of_ble_eq_true rfl) (f_X11_isHouse σ a0  (d := d) (by omega)) ?_
  refine ax_if_neB (tgt := 14) (q := 8) dX11_strike_5 (by decide) rfl (fun c1 => ?_) (fun c1 => ?_)
  · refine ax_iload_n (q := 15) (i := 2) dX11_strike_14 rfl rfl rfl ?_
    refine ax_callSfi (q := 18) (As := [ax_i a1]) (st := []) (x := (if ((¬ (a1 < (1 : Int32))) ∧ (¬ ((999 : Int32) < a1))) then (1 : Int32) else 0)) (σ2 := σ) dX11_strike_15 rfl lk_X11_245 rfl rfl (Nat.le_of_ble_eq_true rfl) (f_X11_isStroke (sh := shC) σ a1  (d := d) (by omega)) ?_
    refine ax_if_neB (tgt := 27) (q := 21) dX11_strike_18 (by decide) rfl (fun c2 => ?_) (fun c2 => ?_)
    · refine ax_aload_n (q := 28) (i := 0) dX11_strike_27 rfl rfl rfl ?_
      exact ax_callVcv (q := 31) (As := []) (st := []) dX11_strike_28 rfl lk_X11_248 shC_0 rfl rfl rfl rfl (Nat.le_of_ble_eq_true rfl) (k1 c1 c2)
    · refine ax_aload_n (q := 22) (i := 0) dX11_strike_21 rfl rfl rfl ?_
      refine ax_iconst (q := 23) dX11_strike_22 rfl ki_1 ?_
      refine ax_callVfi (q := 26) (As := [ax_i (1 : Int32)]) (st := []) (x := (-1 : Int32)) (σ2 := (ax_ui σ 13 1 ((σ.1 13 1) + (1 : Int32)))) dX11_strike_23 rfl lk_X11_242 shC_0 rfl rfl rfl rfl (Nat.le_of_ble_eq_true rfl) (f_X11_refuse σ (1 : Int32) (ax_inl 1 5 (by decide) (by decide)) (d := d) (by omega)) ?_
      exact ax_iret dX11_strike_26 rfl rfl (k2 c1 c2)
  · refine ax_aload_n (q := 9) (i := 0) dX11_strike_8 rfl rfl rfl ?_
    refine ax_iconst (q := 10) dX11_strike_9 rfl ki_0 ?_
    refine ax_callVfi (q := 13) (As := [ax_i (0 : Int32)]) (st := []) (x := (-1 : Int32)) (σ2 := (ax_ui σ 13 0 ((σ.1 13 0) + (1 : Int32)))) dX11_strike_10 rfl lk_X11_242 shC_0 rfl rfl rfl rfl (Nat.le_of_ble_eq_true rfl) (f_X11_refuse σ (0 : Int32) (ax_inl 0 5 (by decide) (by decide)) (d := d) (by omega)) ?_
    exact ax_iret dX11_strike_13 rfl rfl (k3 c1)
set_option maxRecDepth 20000 in
theorem s_X11_strike_31 {d : Nat} (hd : 0 ≤ d) {Q : Option ax_V → ax_S → Prop} (σ : ax_S) (x1 : Int32) (x2 : Int32) (k1 : ax_Ct shC d mX11_strikeNow [ax_r 0, ax_i x1, ax_i x2] (fun r u => ∃ x : Int32, r = some (ax_i x) ∧ ax_W shC (d + 1) mX11_strike Q 37 [none, none, none] (ax_i x :: []) u) σ) : ax_W shC (d + 1) mX11_strike Q 31 [some (ax_r 0), some (ax_i x1), some (ax_i x2)] [] σ := by
  refine ax_aload_n (q := 32) (i := 0) dX11_strike_31 rfl rfl rfl ?_
  refine ax_iload_n (q := 33) (i := 1) dX11_strike_32 rfl rfl rfl ?_
  refine ax_iload_n (q := 34) (i := 2) dX11_strike_33 rfl rfl rfl ?_
  refine ax_fg (lv2 := [none, none, none]) trivial ?_
  exact ax_callVci (q := 37) (As := [ax_i x1, ax_i x2]) (st := []) dX11_strike_34 rfl lk_X11_251 shC_0 rfl rfl rfl rfl (Nat.le_of_ble_eq_true rfl) k1
set_option maxRecDepth 20000 in
theorem s_X11_strike_37 {d : Nat} (hd : 0 ≤ d) {Q : Option ax_V → ax_S → Prop} (σ : ax_S) (rr : Int32) (k1 : Q (some (ax_i rr)) σ) : ax_W shC (d + 1) mX11_strike Q 37 [none, none, none] [ax_i rr] σ := by
  exact ax_iret dX11_strike_37 rfl rfl k1
set_option maxRecDepth 20000 in
theorem f_X11_areTwoHouses (σ : ax_S) (a0 : Int32) (a1 : Int32)  {d : Nat} (hd : 2 ≤ d) : ax_Ct shC d mX11_areTwoHouses [ax_r 0, ax_i a0, ax_i a1] (fun r u => r = some (ax_i (if (((¬ (a0 < 0)) ∧ (¬ ((σ.1 5 9) ≤ a0))) ∧ (((¬ (a1 < 0)) ∧ (¬ ((σ.1 5 9) ≤ a1))) ∧ (¬ (a0 = a1)))) then (1 : Int32) else 0)) ∧ u = σ) σ := by
  obtain ⟨d, rfl⟩ : ∃ e, d = e + 1 := ⟨d - 1, by omega⟩
  refine ax_Ct.of (lv := [some (ax_r 0), some (ax_i a0), some (ax_i a1)]) (by decide +kernel) (fun ad => Nat.le_of_ble_eq_true rfl) (fun ad => rfl) ?_
  refine ax_aload_n (q := 1) (i := 0) dX11_areTwoHouses_0 rfl rfl rfl ?_
  refine ax_iload_n (q := 2) (i := 1) dX11_areTwoHouses_1 rfl rfl rfl ?_
  refine ax_callVfi (q := 5) (As := [ax_i a0]) (st := []) (x := (if ((¬ (a0 < 0)) ∧ (¬ ((σ.1 5 9) ≤ a0))) then (1 : Int32) else 0)) (σ2 := σ) dX11_areTwoHouses_2 rfl lk_X11_160 shC_0 rfl rfl rfl rfl (Nat.le_of_ble_eq_true rfl) (f_X11_isHouse σ a0  (d := d) (by omega)) ?_
  have K4 : ax_W shC (d + 1) mX11_areTwoHouses (fun r u => r = some (ax_i (if (((¬ (a0 < 0)) ∧ (¬ ((σ.1 5 9) ≤ a0))) ∧ (((¬ (a1 < 0)) ∧ (¬ ((σ.1 5 9) ≤ a1))) ∧ (¬ (a0 = a1)))) then (1 : Int32) else 0)) ∧ u = σ) 26 [some (ax_r 0), some (ax_i a0), some (ax_i a1)] [ax_i (if (((¬ (a0 < 0)) ∧ (¬ ((σ.1 5 9) ≤ a0))) ∧ (((¬ (a1 < 0)) ∧ (¬ ((σ.1 5 9) ≤ a1))) ∧ (¬ (a0 = a1)))) then (1 : Int32) else 0)] σ := by
    exact ax_iret dX11_areTwoHouses_26 rfl (ax_nb _) ⟨rfl, rfl⟩
  refine ax_if_eqB (tgt := 25) (q := 8) dX11_areTwoHouses_5 (by decide) rfl (fun c1 => ?_) (fun c1 => ?_)
  · refine ax_iconst (q := 26) dX11_areTwoHouses_25 rfl ki_0 ?_
    exact ax_cv (if_neg (fun z => c1 z.1)) K4
  · refine ax_aload_n (q := 9) (i := 0) dX11_areTwoHouses_8 rfl rfl rfl ?_
    refine ax_iload_n (q := 10) (i := 2) dX11_areTwoHouses_9 rfl rfl rfl ?_
    refine ax_callVfi (q := 13) (As := [ax_i a1]) (st := []) (x := (if ((¬ (a1 < 0)) ∧ (¬ ((σ.1 5 9) ≤ a1))) then (1 : Int32) else 0)) (σ2 := σ) dX11_areTwoHouses_10 rfl lk_X11_160 shC_0 rfl rfl rfl rfl (Nat.le_of_ble_eq_true rfl) (f_X11_isHouse σ a1  (d := d) (by omega)) ?_
    refine ax_if_eqB (tgt := 25) (q := 16) dX11_areTwoHouses_13 (by decide) rfl (fun c2 => ?_) (fun c2 => ?_)
    · refine ax_iconst (q := 26) dX11_areTwoHouses_25 rfl ki_0 ?_
      exact ax_cv (if_neg (fun z => (fun z => c2 z.1) z.2)) K4
    · refine ax_iload_n (q := 17) (i := 1) dX11_areTwoHouses_16 rfl rfl rfl ?_
      refine ax_iload_n (q := 18) (i := 2) dX11_areTwoHouses_17 rfl rfl rfl ?_
      refine ax_icmp_eq (tgt := 25) (q := 21) dX11_areTwoHouses_18 (by decide) rfl (fun c3 => ?_) (fun c3 => ?_)
      · refine ax_iconst (q := 26) dX11_areTwoHouses_25 rfl ki_0 ?_
        exact ax_cv (if_neg (fun z => (fun z => (fun y => y c3) z.2) z.2)) K4
      · refine ax_iconst (q := 22) dX11_areTwoHouses_21 rfl ki_1 ?_
        refine ax_goto (tgt := 26) dX11_areTwoHouses_22 (by decide) ?_
        exact ax_cv (if_pos ⟨c1, ⟨c2, c3⟩⟩) K4
set_option maxRecDepth 20000 in
theorem s_X11_lay_0 {d : Nat} (hd : 2 ≤ d) {Q : Option ax_V → ax_S → Prop} (σ : ax_S) (a0 : Int32) (a1 : Int32) (k1 : (((¬ (a0 < 0)) ∧ (¬ ((σ.1 5 9) ≤ a0))) ∧ (((¬ (a1 < 0)) ∧ (¬ ((σ.1 5 9) ≤ a1))) ∧ (¬ (a0 = a1)))) → ax_Ct shC d mX0_mayJoin [ax_r 5, ax_i a0, ax_i a1] (fun r u => ∃ x : Int32, r = some (ax_i x) ∧ ax_W shC (d + 1) mX11_lay Q 24 [some (ax_r 0), some (ax_i a0), some (ax_i a1)] (ax_i x :: []) u) σ) (k2 : (¬ (((¬ (a0 < 0)) ∧ (¬ ((σ.1 5 9) ≤ a0))) ∧ (((¬ (a1 < 0)) ∧ (¬ ((σ.1 5 9) ≤ a1))) ∧ (¬ (a0 = a1))))) → Q (some (ax_i (-1 : Int32))) (ax_ui σ 13 0 ((σ.1 13 0) + (1 : Int32)))) : ax_W shC (d + 1) mX11_lay Q 0 [some (ax_r 0), some (ax_i a0), some (ax_i a1)] [] σ := by
  refine ax_aload_n (q := 1) (i := 0) dX11_lay_0 rfl rfl rfl ?_
  refine ax_iload_n (q := 2) (i := 1) dX11_lay_1 rfl rfl rfl ?_
  refine ax_iload_n (q := 3) (i := 2) dX11_lay_2 rfl rfl rfl ?_
  refine ax_callVfi (q := 6) (As := [ax_i a0, ax_i a1]) (st := []) (x := (if (((¬ (a0 < 0)) ∧ (¬ ((σ.1 5 9) ≤ a0))) ∧ (((¬ (a1 < 0)) ∧ (¬ ((σ.1 5 9) ≤ a1))) ∧ (¬ (a0 = a1)))) then (1 : Int32) else 0)) (σ2 := σ) dX11_lay_3 rfl lk_X11_254 shC_0 rfl rfl rfl rfl (Nat.le_of_ble_eq_true rfl) (f_X11_areTwoHouses σ a0 a1  (d := d) (by omega)) ?_
  refine ax_if_neB (tgt := 15) (q := 9) dX11_lay_6 (by decide) rfl (fun c1 => ?_) (fun c1 => ?_)
  · refine ax_aload_n (q := 16) (i := 0) dX11_lay_15 rfl rfl rfl ?_
    refine ax_get (q := 19) (k := 0) (j := 4) (v := ax_r 5) dX11_lay_16 rfl shC_0 rfl rfl rfl (by decide) fl_X11_42 ?_
    refine ax_iload_n (q := 20) (i := 1) dX11_lay_19 rfl rfl rfl ?_
    refine ax_iload_n (q := 21) (i := 2) dX11_lay_20 rfl rfl rfl ?_
    exact ax_callVci (q := 24) (As := [ax_i a0, ax_i a1]) (st := []) dX11_lay_21 rfl lk_X11_258 shC_5 rfl rfl rfl rfl (Nat.le_of_ble_eq_true rfl) (k1 c1)
  · refine ax_aload_n (q := 10) (i := 0) dX11_lay_9 rfl rfl rfl ?_
    refine ax_iconst (q := 11) dX11_lay_10 rfl ki_0 ?_
    refine ax_callVfi (q := 14) (As := [ax_i (0 : Int32)]) (st := []) (x := (-1 : Int32)) (σ2 := (ax_ui σ 13 0 ((σ.1 13 0) + (1 : Int32)))) dX11_lay_11 rfl lk_X11_242 shC_0 rfl rfl rfl rfl (Nat.le_of_ble_eq_true rfl) (f_X11_refuse σ (0 : Int32) (ax_inl 0 5 (by decide) (by decide)) (d := d) (by omega)) ?_
    exact ax_iret dX11_lay_14 rfl rfl (k2 c1)
set_option maxRecDepth 20000 in
theorem s_X11_lay_24 {d : Nat} (hd : 2 ≤ d) {Q : Option ax_V → ax_S → Prop} (σ : ax_S) (x1 : Int32) (x2 : Int32) (rr : Int32) (k1 : (rr = 0) → Q (some (ax_i (-1 : Int32))) (ax_ui σ 13 2 ((σ.1 13 2) + (1 : Int32)))) (h2 : (¬ (rr = 0)) → ((σ.1 5 10) < (16 : Int32)) → vp_in x1 8) (h3 : (¬ (rr = 0)) → ((σ.1 5 10) < (16 : Int32)) → vp_in x2 8) (k4 : (¬ (rr = 0)) → ((σ.1 5 10) < (16 : Int32)) → ((if (1 : Int32) < (if (0 : Int32) ≤ ((σ.1 23 (Int32.toNatClampNeg x1)) - (σ.1 23 (Int32.toNatClampNeg x2))) then ((σ.1 23 (Int32.toNatClampNeg x1)) - (σ.1 23 (Int32.toNatClampNeg x2))) else 0 - ((σ.1 23 (Int32.toNatClampNeg x1)) - (σ.1 23 (Int32.toNatClampNeg x2)))) then (if (0 : Int32) ≤ ((σ.1 23 (Int32.toNatClampNeg x1)) - (σ.1 23 (Int32.toNatClampNeg x2))) then ((σ.1 23 (Int32.toNatClampNeg x1)) - (σ.1 23 (Int32.toNatClampNeg x2))) else 0 - ((σ.1 23 (Int32.toNatClampNeg x1)) - (σ.1 23 (Int32.toNatClampNeg x2)))) else (1 : Int32)) ≤ (σ.1 5 12)) → ax_Ct shC d mX11_remember [ax_r 0] (fun r u => r = none ∧ ax_W shC (d + 1) mX11_lay Q 74 [some (ax_r 0), some (ax_i x1), some (ax_i x2)] [] u) σ) (k5 : (¬ (rr = 0)) → ((σ.1 5 10) < (16 : Int32)) → (¬ ((if (1 : Int32) < (if (0 : Int32) ≤ ((σ.1 23 (Int32.toNatClampNeg x1)) - (σ.1 23 (Int32.toNatClampNeg x2))) then ((σ.1 23 (Int32.toNatClampNeg x1)) - (σ.1 23 (Int32.toNatClampNeg x2))) else 0 - ((σ.1 23 (Int32.toNatClampNeg x1)) - (σ.1 23 (Int32.toNatClampNeg x2)))) then (if (0 : Int32) ≤ ((σ.1 23 (Int32.toNatClampNeg x1)) - (σ.1 23 (Int32.toNatClampNeg x2))) then ((σ.1 23 (Int32.toNatClampNeg x1)) - (σ.1 23 (Int32.toNatClampNeg x2))) else 0 - ((σ.1 23 (Int32.toNatClampNeg x1)) - (σ.1 23 (Int32.toNatClampNeg x2)))) else (1 : Int32)) ≤ (σ.1 5 12))) → Q (some (ax_i (-1 : Int32))) (ax_ui σ 13 4 ((σ.1 13 4) + (1 : Int32)))) (k6 : (¬ (rr = 0)) → (¬ ((σ.1 5 10) < (16 : Int32))) → Q (some (ax_i (-1 : Int32))) (ax_ui σ 13 2 ((σ.1 13 2) + (1 : Int32)))) : ax_W shC (d + 1) mX11_lay Q 24 [some (ax_r 0), some (ax_i x1), some (ax_i x2)] [ax_i rr] σ := by
  refine ax_if_eq (tgt := 39) (q := 27) dX11_lay_24 (by decide) rfl (fun c1 => ?_) (fun c1 => ?_)
  · refine ax_aload_n (q := 40) (i := 0) dX11_lay_39 rfl rfl rfl ?_
    refine ax_iconst (q := 41) dX11_lay_40 rfl ki_2 ?_
    refine ax_callVfi (q := 44) (As := [ax_i (2 : Int32)]) (st := []) (x := (-1 : Int32)) (σ2 := (ax_ui σ 13 2 ((σ.1 13 2) + (1 : Int32)))) dX11_lay_41 rfl lk_X11_242 shC_0 rfl rfl rfl rfl (Nat.le_of_ble_eq_true rfl) (f_X11_refuse σ (2 : Int32) (ax_inl 2 5 (by decide) (by decide)) (d := d) (by omega)) ?_
    exact ax_iret dX11_lay_44 rfl rfl (k1 c1)
  · refine ax_aload_n (q := 28) (i := 0) dX11_lay_27 rfl rfl rfl ?_
    refine ax_get (q := 31) (k := 0) (j := 4) (v := ax_r 5) dX11_lay_28 rfl shC_0 rfl rfl rfl (by decide) fl_X11_42 ?_
    refine ax_get (q := 34) (k := 5) (j := 10) (v := ax_i (σ.1 5 10)) dX11_lay_31 rfl shC_5 rfl rfl rfl (by decide) fl_X11_221 ?_
    refine ax_bipush (q := 36) dX11_lay_34 rfl kb_16 ?_
    refine ax_icmp_lt (tgt := 45) (q := 39) dX11_lay_36 (by decide) rfl (fun c2 => ?_) (fun c2 => ?_)
    · refine ax_aload_n (q := 46) (i := 0) dX11_lay_45 rfl rfl rfl ?_
      refine ax_get (q := 49) (k := 0) (j := 4) (v := ax_r 5) dX11_lay_46 rfl shC_0 rfl rfl rfl (by decide) fl_X11_42 ?_
      refine ax_get (q := 52) (k := 5) (j := 12) (v := ax_i (σ.1 5 12)) dX11_lay_49 rfl shC_5 rfl rfl rfl (by decide) fl_X11_227 ?_
      refine ax_aload_n (q := 53) (i := 0) dX11_lay_52 rfl rfl rfl ?_
      refine ax_get (q := 56) (k := 0) (j := 4) (v := ax_r 5) dX11_lay_53 rfl shC_0 rfl rfl rfl (by decide) fl_X11_42 ?_
      refine ax_iload_n (q := 57) (i := 1) dX11_lay_56 rfl rfl rfl ?_
      refine ax_iload_n (q := 58) (i := 2) dX11_lay_57 rfl rfl rfl ?_
      refine ax_callVfi (q := 61) (As := [ax_i x1, ax_i x2]) (st := [ax_i (σ.1 5 12)]) (x := (if (1 : Int32) < (if (0 : Int32) ≤ ((σ.1 23 (Int32.toNatClampNeg x1)) - (σ.1 23 (Int32.toNatClampNeg x2))) then ((σ.1 23 (Int32.toNatClampNeg x1)) - (σ.1 23 (Int32.toNatClampNeg x2))) else 0 - ((σ.1 23 (Int32.toNatClampNeg x1)) - (σ.1 23 (Int32.toNatClampNeg x2)))) then (if (0 : Int32) ≤ ((σ.1 23 (Int32.toNatClampNeg x1)) - (σ.1 23 (Int32.toNatClampNeg x2))) then ((σ.1 23 (Int32.toNatClampNeg x1)) - (σ.1 23 (Int32.toNatClampNeg x2))) else 0 - ((σ.1 23 (Int32.toNatClampNeg x1)) - (σ.1 23 (Int32.toNatClampNeg x2)))) else (1 : Int32))) (σ2 := σ) dX11_lay_58 rfl lk_X11_261 shC_5 rfl rfl rfl rfl (Nat.le_of_ble_eq_true rfl) (f_X0_price σ x1 x2 (h2 c1 c2) (h3 c1 c2) (d := d) (by omega)) ?_
      refine ax_icmp_ge (tgt := 70) (q := 64) dX11_lay_61 (by decide) rfl (fun c3 => ?_) (fun c3 => ?_)
      · refine ax_aload_n (q := 71) (i := 0) dX11_lay_70 rfl rfl rfl ?_
        exact ax_callVcv (q := 74) (As := []) (st := []) dX11_lay_71 rfl lk_X11_248 shC_0 rfl rfl rfl rfl (Nat.le_of_ble_eq_true rfl) (k4 c1 c2 c3)
      · refine ax_aload_n (q := 65) (i := 0) dX11_lay_64 rfl rfl rfl ?_
        refine ax_iconst (q := 66) dX11_lay_65 rfl ki_4 ?_
        refine ax_callVfi (q := 69) (As := [ax_i (4 : Int32)]) (st := []) (x := (-1 : Int32)) (σ2 := (ax_ui σ 13 4 ((σ.1 13 4) + (1 : Int32)))) dX11_lay_66 rfl lk_X11_242 shC_0 rfl rfl rfl rfl (Nat.le_of_ble_eq_true rfl) (f_X11_refuse σ (4 : Int32) (ax_inl 4 5 (by decide) (by decide)) (d := d) (by omega)) ?_
        exact ax_iret dX11_lay_69 rfl rfl (k5 c1 c2 c3)
    · refine ax_aload_n (q := 40) (i := 0) dX11_lay_39 rfl rfl rfl ?_
      refine ax_iconst (q := 41) dX11_lay_40 rfl ki_2 ?_
      refine ax_callVfi (q := 44) (As := [ax_i (2 : Int32)]) (st := []) (x := (-1 : Int32)) (σ2 := (ax_ui σ 13 2 ((σ.1 13 2) + (1 : Int32)))) dX11_lay_41 rfl lk_X11_242 shC_0 rfl rfl rfl rfl (Nat.le_of_ble_eq_true rfl) (f_X11_refuse σ (2 : Int32) (ax_inl 2 5 (by decide) (by decide)) (d := d) (by omega)) ?_
      exact ax_iret dX11_lay_44 rfl rfl (k6 c1 c2)
set_option maxRecDepth 20000 in
theorem s_X11_lay_74 {d : Nat} (hd : 2 ≤ d) {Q : Option ax_V → ax_S → Prop} (σ : ax_S) (x1 : Int32) (x2 : Int32) (h1 : vp_in x1 8) (h2 : vp_in x2 8) (k3 : ax_Ct shC d mX0_think [ax_r 5, ax_i x1, ax_i x2] (fun r u => r = none ∧ ax_W shC (d + 1) mX11_lay Q 104 [some (ax_r 0), none, none] [] u) (ax_ui σ 5 12 ((σ.1 5 12) - (if (1 : Int32) < (if (0 : Int32) ≤ ((σ.1 23 (Int32.toNatClampNeg x1)) - (σ.1 23 (Int32.toNatClampNeg x2))) then ((σ.1 23 (Int32.toNatClampNeg x1)) - (σ.1 23 (Int32.toNatClampNeg x2))) else 0 - ((σ.1 23 (Int32.toNatClampNeg x1)) - (σ.1 23 (Int32.toNatClampNeg x2)))) then (if (0 : Int32) ≤ ((σ.1 23 (Int32.toNatClampNeg x1)) - (σ.1 23 (Int32.toNatClampNeg x2))) then ((σ.1 23 (Int32.toNatClampNeg x1)) - (σ.1 23 (Int32.toNatClampNeg x2))) else 0 - ((σ.1 23 (Int32.toNatClampNeg x1)) - (σ.1 23 (Int32.toNatClampNeg x2)))) else (1 : Int32))))) : ax_W shC (d + 1) mX11_lay Q 74 [some (ax_r 0), some (ax_i x1), some (ax_i x2)] [] σ := by
  refine ax_aload_n (q := 75) (i := 0) dX11_lay_74 rfl rfl rfl ?_
  refine ax_get (q := 78) (k := 0) (j := 4) (v := ax_r 5) dX11_lay_75 rfl shC_0 rfl rfl rfl (by decide) fl_X11_42 ?_
  refine ax_dupr (q := 79) dX11_lay_78 rfl ?_
  refine ax_get (q := 82) (k := 5) (j := 12) (v := ax_i (σ.1 5 12)) dX11_lay_79 rfl shC_5 rfl rfl rfl (by decide) fl_X11_227 ?_
  refine ax_aload_n (q := 83) (i := 0) dX11_lay_82 rfl rfl rfl ?_
  refine ax_get (q := 86) (k := 0) (j := 4) (v := ax_r 5) dX11_lay_83 rfl shC_0 rfl rfl rfl (by decide) fl_X11_42 ?_
  refine ax_iload_n (q := 87) (i := 1) dX11_lay_86 rfl rfl rfl ?_
  refine ax_iload_n (q := 88) (i := 2) dX11_lay_87 rfl rfl rfl ?_
  refine ax_callVfi (q := 91) (As := [ax_i x1, ax_i x2]) (st := [ax_i (σ.1 5 12), ax_r 5]) (x := (if (1 : Int32) < (if (0 : Int32) ≤ ((σ.1 23 (Int32.toNatClampNeg x1)) - (σ.1 23 (Int32.toNatClampNeg x2))) then ((σ.1 23 (Int32.toNatClampNeg x1)) - (σ.1 23 (Int32.toNatClampNeg x2))) else 0 - ((σ.1 23 (Int32.toNatClampNeg x1)) - (σ.1 23 (Int32.toNatClampNeg x2)))) then (if (0 : Int32) ≤ ((σ.1 23 (Int32.toNatClampNeg x1)) - (σ.1 23 (Int32.toNatClampNeg x2))) then ((σ.1 23 (Int32.toNatClampNeg x1)) - (σ.1 23 (Int32.toNatClampNeg x2))) else 0 - ((σ.1 23 (Int32.toNatClampNeg x1)) - (σ.1 23 (Int32.toNatClampNeg x2)))) else (1 : Int32))) (σ2 := σ) dX11_lay_88 rfl lk_X11_261 shC_5 rfl rfl rfl rfl (Nat.le_of_ble_eq_true rfl) (f_X0_price σ x1 x2 h1 h2 (d := d) (by omega)) ?_
  refine ax_isub (q := 92) dX11_lay_91 rfl ?_
  refine ax_puti (q := 95) (k := 5) (j := 12) dX11_lay_92 rfl shC_5 rfl rfl (by decide) fl_X11_227 rfl rfl rfl rfl ?_
  refine ax_aload_n (q := 96) (i := 0) dX11_lay_95 rfl rfl rfl ?_
  refine ax_get (q := 99) (k := 0) (j := 4) (v := ax_r 5) dX11_lay_96 rfl shC_0 rfl rfl rfl (by decide) fl_X11_42 ?_
  refine ax_iload_n (q := 100) (i := 1) dX11_lay_99 rfl rfl rfl ?_
  refine ax_iload_n (q := 101) (i := 2) dX11_lay_100 rfl rfl rfl ?_
  refine ax_fg (lv2 := [some (ax_r 0), none, none]) ⟨rfl, trivial⟩ ?_
  exact ax_callVcv (q := 104) (As := [ax_i x1, ax_i x2]) (st := []) dX11_lay_101 rfl lk_X11_264 shC_5 rfl rfl rfl rfl (Nat.le_of_ble_eq_true rfl) k3
set_option maxRecDepth 20000 in
theorem s_X11_lay_104 {d : Nat} (hd : 0 ≤ d) {Q : Option ax_V → ax_S → Prop} (σ : ax_S)  (k1 : Q (some (ax_i (((σ.1 5 10) + (1 : Int32)) - (1 : Int32)))) (ax_ui σ 5 10 ((σ.1 5 10) + (1 : Int32)))) : ax_W shC (d + 1) mX11_lay Q 104 [some (ax_r 0), none, none] [] σ := by
  refine ax_aload_n (q := 105) (i := 0) dX11_lay_104 rfl rfl rfl ?_
  refine ax_get (q := 108) (k := 0) (j := 4) (v := ax_r 5) dX11_lay_105 rfl shC_0 rfl rfl rfl (by decide) fl_X11_42 ?_
  refine ax_dupr (q := 109) dX11_lay_108 rfl ?_
  refine ax_get (q := 112) (k := 5) (j := 10) (v := ax_i (σ.1 5 10)) dX11_lay_109 rfl shC_5 rfl rfl rfl (by decide) fl_X11_221 ?_
  refine ax_iconst (q := 113) dX11_lay_112 rfl ki_1 ?_
  refine ax_iadd (q := 114) dX11_lay_113 rfl ?_
  refine ax_puti (q := 117) (k := 5) (j := 10) dX11_lay_114 rfl shC_5 rfl rfl (by decide) fl_X11_221 rfl rfl rfl rfl ?_
  refine ax_aload_n (q := 118) (i := 0) dX11_lay_117 rfl rfl rfl ?_
  refine ax_get (q := 121) (k := 0) (j := 4) (v := ax_r 5) dX11_lay_118 rfl shC_0 rfl rfl rfl (by decide) fl_X11_42 ?_
  refine ax_get (q := 124) (k := 5) (j := 10) (v := ax_i ((σ.1 5 10) + (1 : Int32))) dX11_lay_121 rfl shC_5 rfl rfl rfl (by decide) fl_X11_221 ?_
  refine ax_iconst (q := 125) dX11_lay_124 rfl ki_1 ?_
  refine ax_isub (q := 126) dX11_lay_125 rfl ?_
  exact ax_iret dX11_lay_126 rfl rfl k1
set_option maxRecDepth 20000 in
theorem s_X11_cut_0 {d : Nat} (hd : 1 ≤ d) {Q : Option ax_V → ax_S → Prop} (σ : ax_S) (a0 : Int32) (k1 : ((¬ (a0 < 0)) ∧ (¬ ((σ.1 5 10) ≤ a0))) → (¬ (((σ.1 5 11) >>> (a0 &&& 31)) &&& (1 : Int32)) = (1 : Int32)) → ax_Ct shC d mX11_remember [ax_r 0] (fun r u => r = none ∧ ax_W shC (d + 1) mX11_cut Q 39 [some (ax_r 0), some (ax_i a0)] [] u) σ) (k2 : ((¬ (a0 < 0)) ∧ (¬ ((σ.1 5 10) ≤ a0))) → (¬ (¬ (((σ.1 5 11) >>> (a0 &&& 31)) &&& (1 : Int32)) = (1 : Int32))) → Q (some (ax_i (-1 : Int32))) (ax_ui σ 13 3 ((σ.1 13 3) + (1 : Int32)))) (k3 : (¬ ((¬ (a0 < 0)) ∧ (¬ ((σ.1 5 10) ≤ a0)))) → Q (some (ax_i (-1 : Int32))) (ax_ui σ 13 0 ((σ.1 13 0) + (1 : Int32)))) : ax_W shC (d + 1) mX11_cut Q 0 [some (ax_r 0), some (ax_i a0)] [] σ := by
  refine ax_aload_n (q := 1) (i := 0) dX11_cut_0 rfl rfl rfl ?_
  refine ax_iload_n (q := 2) (i := 1) dX11_cut_1 rfl rfl rfl ?_
  refine ax_callVfi (q := 5) (As := [ax_i a0]) (st := []) (x := (if ((¬ (a0 < 0)) ∧ (¬ ((σ.1 5 10) ≤ a0))) then (1 : Int32) else 0)) (σ2 := σ) dX11_cut_2 rfl lk_X11_200 shC_0 rfl rfl rfl rfl (Nat.le_of_ble_eq_true rfl) (f_X11_isWire σ a0  (d := d) (by omega)) ?_
  refine ax_if_neB (tgt := 14) (q := 8) dX11_cut_5 (by decide) rfl (fun c1 => ?_) (fun c1 => ?_)
  · refine ax_aload_n (q := 15) (i := 0) dX11_cut_14 rfl rfl rfl ?_
    refine ax_get (q := 18) (k := 0) (j := 4) (v := ax_r 5) dX11_cut_15 rfl shC_0 rfl rfl rfl (by decide) fl_X11_42 ?_
    refine ax_get (q := 21) (k := 5) (j := 11) (v := ax_i (σ.1 5 11)) dX11_cut_18 rfl shC_5 rfl rfl rfl (by decide) fl_X11_212 ?_
    refine ax_iload_n (q := 22) (i := 1) dX11_cut_21 rfl rfl rfl ?_
    refine ax_callSfi (q := 25) (As := [ax_i (σ.1 5 11), ax_i a0]) (st := []) (x := (((σ.1 5 11) >>> (a0 &&& 31)) &&& (1 : Int32))) (σ2 := σ) dX11_cut_22 rfl lk_X11_215 rfl rfl (Nat.le_of_ble_eq_true rfl) (f_X11_bitOf (sh := shC) σ (σ.1 5 11) a0  (d := d) (by omega)) ?_
    refine ax_iconst (q := 26) dX11_cut_25 rfl ki_1 ?_
    refine ax_icmp_ne (tgt := 35) (q := 29) dX11_cut_26 (by decide) rfl (fun c2 => ?_) (fun c2 => ?_)
    · refine ax_aload_n (q := 36) (i := 0) dX11_cut_35 rfl rfl rfl ?_
      exact ax_callVcv (q := 39) (As := []) (st := []) dX11_cut_36 rfl lk_X11_248 shC_0 rfl rfl rfl rfl (Nat.le_of_ble_eq_true rfl) (k1 c1 c2)
    · refine ax_aload_n (q := 30) (i := 0) dX11_cut_29 rfl rfl rfl ?_
      refine ax_iconst (q := 31) dX11_cut_30 rfl ki_3 ?_
      refine ax_callVfi (q := 34) (As := [ax_i (3 : Int32)]) (st := []) (x := (-1 : Int32)) (σ2 := (ax_ui σ 13 3 ((σ.1 13 3) + (1 : Int32)))) dX11_cut_31 rfl lk_X11_242 shC_0 rfl rfl rfl rfl (Nat.le_of_ble_eq_true rfl) (f_X11_refuse σ (3 : Int32) (ax_inl 3 5 (by decide) (by decide)) (d := d) (by omega)) ?_
      exact ax_iret dX11_cut_34 rfl rfl (k2 c1 c2)
  · refine ax_aload_n (q := 9) (i := 0) dX11_cut_8 rfl rfl rfl ?_
    refine ax_iconst (q := 10) dX11_cut_9 rfl ki_0 ?_
    refine ax_callVfi (q := 13) (As := [ax_i (0 : Int32)]) (st := []) (x := (-1 : Int32)) (σ2 := (ax_ui σ 13 0 ((σ.1 13 0) + (1 : Int32)))) dX11_cut_10 rfl lk_X11_242 shC_0 rfl rfl rfl rfl (Nat.le_of_ble_eq_true rfl) (f_X11_refuse σ (0 : Int32) (ax_inl 0 5 (by decide) (by decide)) (d := d) (by omega)) ?_
    exact ax_iret dX11_cut_13 rfl rfl (k3 c1)
set_option maxRecDepth 20000 in
theorem s_X11_cut_39 {d : Nat} (hd : 2 ≤ d) {Q : Option ax_V → ax_S → Prop} (σ : ax_S) (x1 : Int32) (h1 : vp_in x1 17) (h2 : vp_in (σ.1 28 (Int32.toNatClampNeg x1)) 8) (h3 : vp_in (σ.1 29 (Int32.toNatClampNeg x1)) 8) (k4 : Q (some (ax_i (if ((σ.1 5 12) + ((if (1 : Int32) < (if (0 : Int32) ≤ ((σ.1 23 (Int32.toNatClampNeg (σ.1 28 (Int32.toNatClampNeg x1)))) - (σ.1 23 (Int32.toNatClampNeg (σ.1 29 (Int32.toNatClampNeg x1))))) then ((σ.1 23 (Int32.toNatClampNeg (σ.1 28 (Int32.toNatClampNeg x1)))) - (σ.1 23 (Int32.toNatClampNeg (σ.1 29 (Int32.toNatClampNeg x1))))) else 0 - ((σ.1 23 (Int32.toNatClampNeg (σ.1 28 (Int32.toNatClampNeg x1)))) - (σ.1 23 (Int32.toNatClampNeg (σ.1 29 (Int32.toNatClampNeg x1)))))) then (if (0 : Int32) ≤ ((σ.1 23 (Int32.toNatClampNeg (σ.1 28 (Int32.toNatClampNeg x1)))) - (σ.1 23 (Int32.toNatClampNeg (σ.1 29 (Int32.toNatClampNeg x1))))) then ((σ.1 23 (Int32.toNatClampNeg (σ.1 28 (Int32.toNatClampNeg x1)))) - (σ.1 23 (Int32.toNatClampNeg (σ.1 29 (Int32.toNatClampNeg x1))))) else 0 - ((σ.1 23 (Int32.toNatClampNeg (σ.1 28 (Int32.toNatClampNeg x1)))) - (σ.1 23 (Int32.toNatClampNeg (σ.1 29 (Int32.toNatClampNeg x1)))))) else (1 : Int32)) / (2 : Int32))) < (99 : Int32) then ((σ.1 5 12) + ((if (1 : Int32) < (if (0 : Int32) ≤ ((σ.1 23 (Int32.toNatClampNeg (σ.1 28 (Int32.toNatClampNeg x1)))) - (σ.1 23 (Int32.toNatClampNeg (σ.1 29 (Int32.toNatClampNeg x1))))) then ((σ.1 23 (Int32.toNatClampNeg (σ.1 28 (Int32.toNatClampNeg x1)))) - (σ.1 23 (Int32.toNatClampNeg (σ.1 29 (Int32.toNatClampNeg x1))))) else 0 - ((σ.1 23 (Int32.toNatClampNeg (σ.1 28 (Int32.toNatClampNeg x1)))) - (σ.1 23 (Int32.toNatClampNeg (σ.1 29 (Int32.toNatClampNeg x1)))))) then (if (0 : Int32) ≤ ((σ.1 23 (Int32.toNatClampNeg (σ.1 28 (Int32.toNatClampNeg x1)))) - (σ.1 23 (Int32.toNatClampNeg (σ.1 29 (Int32.toNatClampNeg x1))))) then ((σ.1 23 (Int32.toNatClampNeg (σ.1 28 (Int32.toNatClampNeg x1)))) - (σ.1 23 (Int32.toNatClampNeg (σ.1 29 (Int32.toNatClampNeg x1))))) else 0 - ((σ.1 23 (Int32.toNatClampNeg (σ.1 28 (Int32.toNatClampNeg x1)))) - (σ.1 23 (Int32.toNatClampNeg (σ.1 29 (Int32.toNatClampNeg x1)))))) else (1 : Int32)) / (2 : Int32))) else (99 : Int32)))) (ax_ui (ax_ui σ 5 11 ((σ.1 5 11) ||| ((1 : Int32) <<< (x1 &&& 31)))) 5 12 (if ((σ.1 5 12) + ((if (1 : Int32) < (if (0 : Int32) ≤ ((σ.1 23 (Int32.toNatClampNeg (σ.1 28 (Int32.toNatClampNeg x1)))) - (σ.1 23 (Int32.toNatClampNeg (σ.1 29 (Int32.toNatClampNeg x1))))) then ((σ.1 23 (Int32.toNatClampNeg (σ.1 28 (Int32.toNatClampNeg x1)))) - (σ.1 23 (Int32.toNatClampNeg (σ.1 29 (Int32.toNatClampNeg x1))))) else 0 - ((σ.1 23 (Int32.toNatClampNeg (σ.1 28 (Int32.toNatClampNeg x1)))) - (σ.1 23 (Int32.toNatClampNeg (σ.1 29 (Int32.toNatClampNeg x1)))))) then (if (0 : Int32) ≤ ((σ.1 23 (Int32.toNatClampNeg (σ.1 28 (Int32.toNatClampNeg x1)))) - (σ.1 23 (Int32.toNatClampNeg (σ.1 29 (Int32.toNatClampNeg x1))))) then ((σ.1 23 (Int32.toNatClampNeg (σ.1 28 (Int32.toNatClampNeg x1)))) - (σ.1 23 (Int32.toNatClampNeg (σ.1 29 (Int32.toNatClampNeg x1))))) else 0 - ((σ.1 23 (Int32.toNatClampNeg (σ.1 28 (Int32.toNatClampNeg x1)))) - (σ.1 23 (Int32.toNatClampNeg (σ.1 29 (Int32.toNatClampNeg x1)))))) else (1 : Int32)) / (2 : Int32))) < (99 : Int32) then ((σ.1 5 12) + ((if (1 : Int32) < (if (0 : Int32) ≤ ((σ.1 23 (Int32.toNatClampNeg (σ.1 28 (Int32.toNatClampNeg x1)))) - (σ.1 23 (Int32.toNatClampNeg (σ.1 29 (Int32.toNatClampNeg x1))))) then ((σ.1 23 (Int32.toNatClampNeg (σ.1 28 (Int32.toNatClampNeg x1)))) - (σ.1 23 (Int32.toNatClampNeg (σ.1 29 (Int32.toNatClampNeg x1))))) else 0 - ((σ.1 23 (Int32.toNatClampNeg (σ.1 28 (Int32.toNatClampNeg x1)))) - (σ.1 23 (Int32.toNatClampNeg (σ.1 29 (Int32.toNatClampNeg x1)))))) then (if (0 : Int32) ≤ ((σ.1 23 (Int32.toNatClampNeg (σ.1 28 (Int32.toNatClampNeg x1)))) - (σ.1 23 (Int32.toNatClampNeg (σ.1 29 (Int32.toNatClampNeg x1))))) then ((σ.1 23 (Int32.toNatClampNeg (σ.1 28 (Int32.toNatClampNeg x1)))) - (σ.1 23 (Int32.toNatClampNeg (σ.1 29 (Int32.toNatClampNeg x1))))) else 0 - ((σ.1 23 (Int32.toNatClampNeg (σ.1 28 (Int32.toNatClampNeg x1)))) - (σ.1 23 (Int32.toNatClampNeg (σ.1 29 (Int32.toNatClampNeg x1)))))) else (1 : Int32)) / (2 : Int32))) else (99 : Int32)))) : ax_W shC (d + 1) mX11_cut Q 39 [some (ax_r 0), some (ax_i x1)] [] σ := by
  refine ax_aload_n (q := 40) (i := 0) dX11_cut_39 rfl rfl rfl ?_
  refine ax_get (q := 43) (k := 0) (j := 4) (v := ax_r 5) dX11_cut_40 rfl shC_0 rfl rfl rfl (by decide) fl_X11_42 ?_
  refine ax_dupr (q := 44) dX11_cut_43 rfl ?_
  refine ax_get (q := 47) (k := 5) (j := 11) (v := ax_i (σ.1 5 11)) dX11_cut_44 rfl shC_5 rfl rfl rfl (by decide) fl_X11_212 ?_
  refine ax_iconst (q := 48) dX11_cut_47 rfl ki_1 ?_
  refine ax_iload_n (q := 49) (i := 1) dX11_cut_48 rfl rfl rfl ?_
  refine ax_ishl (q := 50) dX11_cut_49 rfl ?_
  refine ax_ior (q := 51) dX11_cut_50 rfl ?_
  refine ax_puti (q := 54) (k := 5) (j := 11) dX11_cut_51 rfl shC_5 rfl rfl (by decide) fl_X11_212 rfl rfl rfl rfl ?_
  refine ax_aload_n (q := 55) (i := 0) dX11_cut_54 rfl rfl rfl ?_
  refine ax_get (q := 58) (k := 0) (j := 4) (v := ax_r 5) dX11_cut_55 rfl shC_0 rfl rfl rfl (by decide) fl_X11_42 ?_
  refine ax_aload_n (q := 59) (i := 0) dX11_cut_58 rfl rfl rfl ?_
  refine ax_get (q := 62) (k := 0) (j := 4) (v := ax_r 5) dX11_cut_59 rfl shC_0 rfl rfl rfl (by decide) fl_X11_42 ?_
  refine ax_aload_n (q := 63) (i := 0) dX11_cut_62 rfl rfl rfl ?_
  refine ax_get (q := 66) (k := 0) (j := 4) (v := ax_r 5) dX11_cut_63 rfl shC_0 rfl rfl rfl (by decide) fl_X11_42 ?_
  refine ax_get (q := 69) (k := 5) (j := 5) (v := ax_r 28) dX11_cut_66 rfl shC_5 rfl rfl rfl (by decide) fl_X11_203 ?_
  refine ax_iload_n (q := 70) (i := 1) dX11_cut_69 rfl rfl rfl ?_
  refine ax_iald (q := 71) (a := (Int32.toNatClampNeg x1)) (v := (σ.1 28 (Int32.toNatClampNeg x1))) dX11_cut_70 rfl shC_28 h1 rfl rfl ?_
  refine ax_aload_n (q := 72) (i := 0) dX11_cut_71 rfl rfl rfl ?_
  refine ax_get (q := 75) (k := 0) (j := 4) (v := ax_r 5) dX11_cut_72 rfl shC_0 rfl rfl rfl (by decide) fl_X11_42 ?_
  refine ax_get (q := 78) (k := 5) (j := 6) (v := ax_r 29) dX11_cut_75 rfl shC_5 rfl rfl rfl (by decide) fl_X11_206 ?_
  refine ax_iload_n (q := 79) (i := 1) dX11_cut_78 rfl rfl rfl ?_
  refine ax_iald (q := 80) (a := (Int32.toNatClampNeg x1)) (v := (σ.1 29 (Int32.toNatClampNeg x1))) dX11_cut_79 rfl shC_29 h1 rfl rfl ?_
  refine ax_callVfi (q := 83) (As := [ax_i (σ.1 28 (Int32.toNatClampNeg x1)), ax_i (σ.1 29 (Int32.toNatClampNeg x1))]) (st := [ax_r 5]) (x := (if (1 : Int32) < (if (0 : Int32) ≤ ((σ.1 23 (Int32.toNatClampNeg (σ.1 28 (Int32.toNatClampNeg x1)))) - (σ.1 23 (Int32.toNatClampNeg (σ.1 29 (Int32.toNatClampNeg x1))))) then ((σ.1 23 (Int32.toNatClampNeg (σ.1 28 (Int32.toNatClampNeg x1)))) - (σ.1 23 (Int32.toNatClampNeg (σ.1 29 (Int32.toNatClampNeg x1))))) else 0 - ((σ.1 23 (Int32.toNatClampNeg (σ.1 28 (Int32.toNatClampNeg x1)))) - (σ.1 23 (Int32.toNatClampNeg (σ.1 29 (Int32.toNatClampNeg x1)))))) then (if (0 : Int32) ≤ ((σ.1 23 (Int32.toNatClampNeg (σ.1 28 (Int32.toNatClampNeg x1)))) - (σ.1 23 (Int32.toNatClampNeg (σ.1 29 (Int32.toNatClampNeg x1))))) then ((σ.1 23 (Int32.toNatClampNeg (σ.1 28 (Int32.toNatClampNeg x1)))) - (σ.1 23 (Int32.toNatClampNeg (σ.1 29 (Int32.toNatClampNeg x1))))) else 0 - ((σ.1 23 (Int32.toNatClampNeg (σ.1 28 (Int32.toNatClampNeg x1)))) - (σ.1 23 (Int32.toNatClampNeg (σ.1 29 (Int32.toNatClampNeg x1)))))) else (1 : Int32))) (σ2 := (ax_ui σ 5 11 ((σ.1 5 11) ||| ((1 : Int32) <<< (x1 &&& 31))))) dX11_cut_80 rfl lk_X11_261 shC_5 rfl rfl rfl rfl (Nat.le_of_ble_eq_true rfl) (f_X0_price (ax_ui σ 5 11 ((σ.1 5 11) ||| ((1 : Int32) <<< (x1 &&& 31)))) (σ.1 28 (Int32.toNatClampNeg x1)) (σ.1 29 (Int32.toNatClampNeg x1)) h2 h3 (d := d) (by omega)) ?_
  refine ax_iconst (q := 84) dX11_cut_83 rfl ki_2 ?_
  refine ax_idiv (q := 85) dX11_cut_84 rfl (by decide) ?_
  refine ax_callVfv (q := 88) (As := [ax_i ((if (1 : Int32) < (if (0 : Int32) ≤ ((σ.1 23 (Int32.toNatClampNeg (σ.1 28 (Int32.toNatClampNeg x1)))) - (σ.1 23 (Int32.toNatClampNeg (σ.1 29 (Int32.toNatClampNeg x1))))) then ((σ.1 23 (Int32.toNatClampNeg (σ.1 28 (Int32.toNatClampNeg x1)))) - (σ.1 23 (Int32.toNatClampNeg (σ.1 29 (Int32.toNatClampNeg x1))))) else 0 - ((σ.1 23 (Int32.toNatClampNeg (σ.1 28 (Int32.toNatClampNeg x1)))) - (σ.1 23 (Int32.toNatClampNeg (σ.1 29 (Int32.toNatClampNeg x1)))))) then (if (0 : Int32) ≤ ((σ.1 23 (Int32.toNatClampNeg (σ.1 28 (Int32.toNatClampNeg x1)))) - (σ.1 23 (Int32.toNatClampNeg (σ.1 29 (Int32.toNatClampNeg x1))))) then ((σ.1 23 (Int32.toNatClampNeg (σ.1 28 (Int32.toNatClampNeg x1)))) - (σ.1 23 (Int32.toNatClampNeg (σ.1 29 (Int32.toNatClampNeg x1))))) else 0 - ((σ.1 23 (Int32.toNatClampNeg (σ.1 28 (Int32.toNatClampNeg x1)))) - (σ.1 23 (Int32.toNatClampNeg (σ.1 29 (Int32.toNatClampNeg x1)))))) else (1 : Int32)) / (2 : Int32))]) (st := []) (σ2 := (ax_ui (ax_ui σ 5 11 ((σ.1 5 11) ||| ((1 : Int32) <<< (x1 &&& 31)))) 5 12 (if ((σ.1 5 12) + ((if (1 : Int32) < (if (0 : Int32) ≤ ((σ.1 23 (Int32.toNatClampNeg (σ.1 28 (Int32.toNatClampNeg x1)))) - (σ.1 23 (Int32.toNatClampNeg (σ.1 29 (Int32.toNatClampNeg x1))))) then ((σ.1 23 (Int32.toNatClampNeg (σ.1 28 (Int32.toNatClampNeg x1)))) - (σ.1 23 (Int32.toNatClampNeg (σ.1 29 (Int32.toNatClampNeg x1))))) else 0 - ((σ.1 23 (Int32.toNatClampNeg (σ.1 28 (Int32.toNatClampNeg x1)))) - (σ.1 23 (Int32.toNatClampNeg (σ.1 29 (Int32.toNatClampNeg x1)))))) then (if (0 : Int32) ≤ ((σ.1 23 (Int32.toNatClampNeg (σ.1 28 (Int32.toNatClampNeg x1)))) - (σ.1 23 (Int32.toNatClampNeg (σ.1 29 (Int32.toNatClampNeg x1))))) then ((σ.1 23 (Int32.toNatClampNeg (σ.1 28 (Int32.toNatClampNeg x1)))) - (σ.1 23 (Int32.toNatClampNeg (σ.1 29 (Int32.toNatClampNeg x1))))) else 0 - ((σ.1 23 (Int32.toNatClampNeg (σ.1 28 (Int32.toNatClampNeg x1)))) - (σ.1 23 (Int32.toNatClampNeg (σ.1 29 (Int32.toNatClampNeg x1)))))) else (1 : Int32)) / (2 : Int32))) < (99 : Int32) then ((σ.1 5 12) + ((if (1 : Int32) < (if (0 : Int32) ≤ ((σ.1 23 (Int32.toNatClampNeg (σ.1 28 (Int32.toNatClampNeg x1)))) - (σ.1 23 (Int32.toNatClampNeg (σ.1 29 (Int32.toNatClampNeg x1))))) then ((σ.1 23 (Int32.toNatClampNeg (σ.1 28 (Int32.toNatClampNeg x1)))) - (σ.1 23 (Int32.toNatClampNeg (σ.1 29 (Int32.toNatClampNeg x1))))) else 0 - ((σ.1 23 (Int32.toNatClampNeg (σ.1 28 (Int32.toNatClampNeg x1)))) - (σ.1 23 (Int32.toNatClampNeg (σ.1 29 (Int32.toNatClampNeg x1)))))) then (if (0 : Int32) ≤ ((σ.1 23 (Int32.toNatClampNeg (σ.1 28 (Int32.toNatClampNeg x1)))) - (σ.1 23 (Int32.toNatClampNeg (σ.1 29 (Int32.toNatClampNeg x1))))) then ((σ.1 23 (Int32.toNatClampNeg (σ.1 28 (Int32.toNatClampNeg x1)))) - (σ.1 23 (Int32.toNatClampNeg (σ.1 29 (Int32.toNatClampNeg x1))))) else 0 - ((σ.1 23 (Int32.toNatClampNeg (σ.1 28 (Int32.toNatClampNeg x1)))) - (σ.1 23 (Int32.toNatClampNeg (σ.1 29 (Int32.toNatClampNeg x1)))))) else (1 : Int32)) / (2 : Int32))) else (99 : Int32)))) dX11_cut_85 rfl lk_X11_268 shC_5 rfl rfl rfl rfl (Nat.le_of_ble_eq_true rfl) (f_X0_addCopper (ax_ui σ 5 11 ((σ.1 5 11) ||| ((1 : Int32) <<< (x1 &&& 31)))) ((if (1 : Int32) < (if (0 : Int32) ≤ ((σ.1 23 (Int32.toNatClampNeg (σ.1 28 (Int32.toNatClampNeg x1)))) - (σ.1 23 (Int32.toNatClampNeg (σ.1 29 (Int32.toNatClampNeg x1))))) then ((σ.1 23 (Int32.toNatClampNeg (σ.1 28 (Int32.toNatClampNeg x1)))) - (σ.1 23 (Int32.toNatClampNeg (σ.1 29 (Int32.toNatClampNeg x1))))) else 0 - ((σ.1 23 (Int32.toNatClampNeg (σ.1 28 (Int32.toNatClampNeg x1)))) - (σ.1 23 (Int32.toNatClampNeg (σ.1 29 (Int32.toNatClampNeg x1)))))) then (if (0 : Int32) ≤ ((σ.1 23 (Int32.toNatClampNeg (σ.1 28 (Int32.toNatClampNeg x1)))) - (σ.1 23 (Int32.toNatClampNeg (σ.1 29 (Int32.toNatClampNeg x1))))) then ((σ.1 23 (Int32.toNatClampNeg (σ.1 28 (Int32.toNatClampNeg x1)))) - (σ.1 23 (Int32.toNatClampNeg (σ.1 29 (Int32.toNatClampNeg x1))))) else 0 - ((σ.1 23 (Int32.toNatClampNeg (σ.1 28 (Int32.toNatClampNeg x1)))) - (σ.1 23 (Int32.toNatClampNeg (σ.1 29 (Int32.toNatClampNeg x1)))))) else (1 : Int32)) / (2 : Int32))  (d := d) (by omega)) ?_
  refine ax_aload_n (q := 89) (i := 0) dX11_cut_88 rfl rfl rfl ?_
  refine ax_get (q := 92) (k := 0) (j := 4) (v := ax_r 5) dX11_cut_89 rfl shC_0 rfl rfl rfl (by decide) fl_X11_42 ?_
  refine ax_get (q := 95) (k := 5) (j := 12) (v := ax_i (if ((σ.1 5 12) + ((if (1 : Int32) < (if (0 : Int32) ≤ ((σ.1 23 (Int32.toNatClampNeg (σ.1 28 (Int32.toNatClampNeg x1)))) - (σ.1 23 (Int32.toNatClampNeg (σ.1 29 (Int32.toNatClampNeg x1))))) then ((σ.1 23 (Int32.toNatClampNeg (σ.1 28 (Int32.toNatClampNeg x1)))) - (σ.1 23 (Int32.toNatClampNeg (σ.1 29 (Int32.toNatClampNeg x1))))) else 0 - ((σ.1 23 (Int32.toNatClampNeg (σ.1 28 (Int32.toNatClampNeg x1)))) - (σ.1 23 (Int32.toNatClampNeg (σ.1 29 (Int32.toNatClampNeg x1)))))) then (if (0 : Int32) ≤ ((σ.1 23 (Int32.toNatClampNeg (σ.1 28 (Int32.toNatClampNeg x1)))) - (σ.1 23 (Int32.toNatClampNeg (σ.1 29 (Int32.toNatClampNeg x1))))) then ((σ.1 23 (Int32.toNatClampNeg (σ.1 28 (Int32.toNatClampNeg x1)))) - (σ.1 23 (Int32.toNatClampNeg (σ.1 29 (Int32.toNatClampNeg x1))))) else 0 - ((σ.1 23 (Int32.toNatClampNeg (σ.1 28 (Int32.toNatClampNeg x1)))) - (σ.1 23 (Int32.toNatClampNeg (σ.1 29 (Int32.toNatClampNeg x1)))))) else (1 : Int32)) / (2 : Int32))) < (99 : Int32) then ((σ.1 5 12) + ((if (1 : Int32) < (if (0 : Int32) ≤ ((σ.1 23 (Int32.toNatClampNeg (σ.1 28 (Int32.toNatClampNeg x1)))) - (σ.1 23 (Int32.toNatClampNeg (σ.1 29 (Int32.toNatClampNeg x1))))) then ((σ.1 23 (Int32.toNatClampNeg (σ.1 28 (Int32.toNatClampNeg x1)))) - (σ.1 23 (Int32.toNatClampNeg (σ.1 29 (Int32.toNatClampNeg x1))))) else 0 - ((σ.1 23 (Int32.toNatClampNeg (σ.1 28 (Int32.toNatClampNeg x1)))) - (σ.1 23 (Int32.toNatClampNeg (σ.1 29 (Int32.toNatClampNeg x1)))))) then (if (0 : Int32) ≤ ((σ.1 23 (Int32.toNatClampNeg (σ.1 28 (Int32.toNatClampNeg x1)))) - (σ.1 23 (Int32.toNatClampNeg (σ.1 29 (Int32.toNatClampNeg x1))))) then ((σ.1 23 (Int32.toNatClampNeg (σ.1 28 (Int32.toNatClampNeg x1)))) - (σ.1 23 (Int32.toNatClampNeg (σ.1 29 (Int32.toNatClampNeg x1))))) else 0 - ((σ.1 23 (Int32.toNatClampNeg (σ.1 28 (Int32.toNatClampNeg x1)))) - (σ.1 23 (Int32.toNatClampNeg (σ.1 29 (Int32.toNatClampNeg x1)))))) else (1 : Int32)) / (2 : Int32))) else (99 : Int32))) dX11_cut_92 rfl shC_5 rfl rfl rfl (by decide) fl_X11_227 ?_
  exact ax_iret dX11_cut_95 rfl rfl k4
set_option maxRecDepth 20000 in
theorem s_X11_scrape_0 {d : Nat} (hd : 1 ≤ d) {Q : Option ax_V → ax_S → Prop} (σ : ax_S) (a0 : Int32) (k1 : ((¬ (a0 < 0)) ∧ (¬ ((σ.1 5 10) ≤ a0))) → ((((σ.1 5 11) >>> (a0 &&& 31)) &&& (1 : Int32)) = (1 : Int32)) → Q (some (ax_i (-1 : Int32))) (ax_ui σ 13 3 ((σ.1 13 3) + (1 : Int32)))) (h2 : ((¬ (a0 < 0)) ∧ (¬ ((σ.1 5 10) ≤ a0))) → (¬ ((((σ.1 5 11) >>> (a0 &&& 31)) &&& (1 : Int32)) = (1 : Int32))) → vp_in a0 17) (k3 : ((¬ (a0 < 0)) ∧ (¬ ((σ.1 5 10) ≤ a0))) → (¬ ((((σ.1 5 11) >>> (a0 &&& 31)) &&& (1 : Int32)) = (1 : Int32))) → (¬ (σ.1 30 (Int32.toNatClampNeg a0)) = 0) → ((1 : Int32) ≤ (σ.1 5 12)) → ax_Ct shC d mX11_remember [ax_r 0] (fun r u => r = none ∧ ax_W shC (d + 1) mX11_scrape Q 68 [some (ax_r 0), some (ax_i a0)] [] u) σ) (k4 : ((¬ (a0 < 0)) ∧ (¬ ((σ.1 5 10) ≤ a0))) → (¬ ((((σ.1 5 11) >>> (a0 &&& 31)) &&& (1 : Int32)) = (1 : Int32))) → (¬ (σ.1 30 (Int32.toNatClampNeg a0)) = 0) → (¬ ((1 : Int32) ≤ (σ.1 5 12))) → Q (some (ax_i (-1 : Int32))) (ax_ui σ 13 4 ((σ.1 13 4) + (1 : Int32)))) (k5 : ((¬ (a0 < 0)) ∧ (¬ ((σ.1 5 10) ≤ a0))) → (¬ ((((σ.1 5 11) >>> (a0 &&& 31)) &&& (1 : Int32)) = (1 : Int32))) → (¬ (¬ (σ.1 30 (Int32.toNatClampNeg a0)) = 0)) → Q (some (ax_i (-1 : Int32))) (ax_ui σ 13 3 ((σ.1 13 3) + (1 : Int32)))) (k6 : (¬ ((¬ (a0 < 0)) ∧ (¬ ((σ.1 5 10) ≤ a0)))) → Q (some (ax_i (-1 : Int32))) (ax_ui σ 13 0 ((σ.1 13 0) + (1 : Int32)))) : ax_W shC (d + 1) mX11_scrape Q 0 [some (ax_r 0), some (ax_i a0)] [] σ := by
  refine ax_aload_n (q := 1) (i := 0) dX11_scrape_0 rfl rfl rfl ?_
  refine ax_iload_n (q := 2) (i := 1) dX11_scrape_1 rfl rfl rfl ?_
  refine ax_callVfi (q := 5) (As := [ax_i a0]) (st := []) (x := (if ((¬ (a0 < 0)) ∧ (¬ ((σ.1 5 10) ≤ a0))) then (1 : Int32) else 0)) (σ2 := σ) dX11_scrape_2 rfl lk_X11_200 shC_0 rfl rfl rfl rfl (Nat.le_of_ble_eq_true rfl) (f_X11_isWire σ a0  (d := d) (by omega)) ?_
  refine ax_if_neB (tgt := 14) (q := 8) dX11_scrape_5 (by decide) rfl (fun c1 => ?_) (fun c1 => ?_)
  · refine ax_aload_n (q := 15) (i := 0) dX11_scrape_14 rfl rfl rfl ?_
    refine ax_get (q := 18) (k := 0) (j := 4) (v := ax_r 5) dX11_scrape_15 rfl shC_0 rfl rfl rfl (by decide) fl_X11_42 ?_
    refine ax_get (q := 21) (k := 5) (j := 11) (v := ax_i (σ.1 5 11)) dX11_scrape_18 rfl shC_5 rfl rfl rfl (by decide) fl_X11_212 ?_
    refine ax_iload_n (q := 22) (i := 1) dX11_scrape_21 rfl rfl rfl ?_
    refine ax_callSfi (q := 25) (As := [ax_i (σ.1 5 11), ax_i a0]) (st := []) (x := (((σ.1 5 11) >>> (a0 &&& 31)) &&& (1 : Int32))) (σ2 := σ) dX11_scrape_22 rfl lk_X11_215 rfl rfl (Nat.le_of_ble_eq_true rfl) (f_X11_bitOf (sh := shC) σ (σ.1 5 11) a0  (d := d) (by omega)) ?_
    refine ax_iconst (q := 26) dX11_scrape_25 rfl ki_1 ?_
    refine ax_icmp_eq (tgt := 41) (q := 29) dX11_scrape_26 (by decide) rfl (fun c2 => ?_) (fun c2 => ?_)
    · refine ax_aload_n (q := 42) (i := 0) dX11_scrape_41 rfl rfl rfl ?_
      refine ax_iconst (q := 43) dX11_scrape_42 rfl ki_3 ?_
      refine ax_callVfi (q := 46) (As := [ax_i (3 : Int32)]) (st := []) (x := (-1 : Int32)) (σ2 := (ax_ui σ 13 3 ((σ.1 13 3) + (1 : Int32)))) dX11_scrape_43 rfl lk_X11_242 shC_0 rfl rfl rfl rfl (Nat.le_of_ble_eq_true rfl) (f_X11_refuse σ (3 : Int32) (ax_inl 3 5 (by decide) (by decide)) (d := d) (by omega)) ?_
      exact ax_iret dX11_scrape_46 rfl rfl (k1 c1 c2)
    · refine ax_aload_n (q := 30) (i := 0) dX11_scrape_29 rfl rfl rfl ?_
      refine ax_get (q := 33) (k := 0) (j := 4) (v := ax_r 5) dX11_scrape_30 rfl shC_0 rfl rfl rfl (by decide) fl_X11_42 ?_
      refine ax_get (q := 36) (k := 5) (j := 7) (v := ax_r 30) dX11_scrape_33 rfl shC_5 rfl rfl rfl (by decide) fl_X11_209 ?_
      refine ax_iload_n (q := 37) (i := 1) dX11_scrape_36 rfl rfl rfl ?_
      refine ax_iald (q := 38) (a := (Int32.toNatClampNeg a0)) (v := (σ.1 30 (Int32.toNatClampNeg a0))) dX11_scrape_37 rfl shC_30 (h2 c1 c2) rfl rfl ?_
      refine ax_if_ne (tgt := 47) (q := 41) dX11_scrape_38 (by decide) rfl (fun c3 => ?_) (fun c3 => ?_)
      · refine ax_aload_n (q := 48) (i := 0) dX11_scrape_47 rfl rfl rfl ?_
        refine ax_get (q := 51) (k := 0) (j := 4) (v := ax_r 5) dX11_scrape_48 rfl shC_0 rfl rfl rfl (by decide) fl_X11_42 ?_
        refine ax_get (q := 54) (k := 5) (j := 12) (v := ax_i (σ.1 5 12)) dX11_scrape_51 rfl shC_5 rfl rfl rfl (by decide) fl_X11_227 ?_
        refine ax_iconst (q := 55) dX11_scrape_54 rfl ki_1 ?_
        refine ax_icmp_ge (tgt := 64) (q := 58) dX11_scrape_55 (by decide) rfl (fun c4 => ?_) (fun c4 => ?_)
        · refine ax_aload_n (q := 65) (i := 0) dX11_scrape_64 rfl rfl rfl ?_
          exact ax_callVcv (q := 68) (As := []) (st := []) dX11_scrape_65 rfl lk_X11_248 shC_0 rfl rfl rfl rfl (Nat.le_of_ble_eq_true rfl) (k3 c1 c2 c3 c4)
        · refine ax_aload_n (q := 59) (i := 0) dX11_scrape_58 rfl rfl rfl ?_
          refine ax_iconst (q := 60) dX11_scrape_59 rfl ki_4 ?_
          refine ax_callVfi (q := 63) (As := [ax_i (4 : Int32)]) (st := []) (x := (-1 : Int32)) (σ2 := (ax_ui σ 13 4 ((σ.1 13 4) + (1 : Int32)))) dX11_scrape_60 rfl lk_X11_242 shC_0 rfl rfl rfl rfl (Nat.le_of_ble_eq_true rfl) (f_X11_refuse σ (4 : Int32) (ax_inl 4 5 (by decide) (by decide)) (d := d) (by omega)) ?_
          exact ax_iret dX11_scrape_63 rfl rfl (k4 c1 c2 c3 c4)
      · refine ax_aload_n (q := 42) (i := 0) dX11_scrape_41 rfl rfl rfl ?_
        refine ax_iconst (q := 43) dX11_scrape_42 rfl ki_3 ?_
        refine ax_callVfi (q := 46) (As := [ax_i (3 : Int32)]) (st := []) (x := (-1 : Int32)) (σ2 := (ax_ui σ 13 3 ((σ.1 13 3) + (1 : Int32)))) dX11_scrape_43 rfl lk_X11_242 shC_0 rfl rfl rfl rfl (Nat.le_of_ble_eq_true rfl) (f_X11_refuse σ (3 : Int32) (ax_inl 3 5 (by decide) (by decide)) (d := d) (by omega)) ?_
        exact ax_iret dX11_scrape_46 rfl rfl (k5 c1 c2 c3)
  · refine ax_aload_n (q := 9) (i := 0) dX11_scrape_8 rfl rfl rfl ?_
    refine ax_iconst (q := 10) dX11_scrape_9 rfl ki_0 ?_
    refine ax_callVfi (q := 13) (As := [ax_i (0 : Int32)]) (st := []) (x := (-1 : Int32)) (σ2 := (ax_ui σ 13 0 ((σ.1 13 0) + (1 : Int32)))) dX11_scrape_10 rfl lk_X11_242 shC_0 rfl rfl rfl rfl (Nat.le_of_ble_eq_true rfl) (f_X11_refuse σ (0 : Int32) (ax_inl 0 5 (by decide) (by decide)) (d := d) (by omega)) ?_
    exact ax_iret dX11_scrape_13 rfl rfl (k6 c1)
set_option maxRecDepth 20000 in
theorem s_X11_scrape_68 {d : Nat} (hd : 0 ≤ d) {Q : Option ax_V → ax_S → Prop} (σ : ax_S) (x1 : Int32) (h1 : vp_in x1 17) (k2 : Q (some (ax_i ((σ.1 5 12) - (1 : Int32)))) (ax_ui (ax_ui σ 30 (Int32.toNatClampNeg x1) (0 : Int32)) 5 12 ((σ.1 5 12) - (1 : Int32)))) : ax_W shC (d + 1) mX11_scrape Q 68 [some (ax_r 0), some (ax_i x1)] [] σ := by
  refine ax_aload_n (q := 69) (i := 0) dX11_scrape_68 rfl rfl rfl ?_
  refine ax_get (q := 72) (k := 0) (j := 4) (v := ax_r 5) dX11_scrape_69 rfl shC_0 rfl rfl rfl (by decide) fl_X11_42 ?_
  refine ax_get (q := 75) (k := 5) (j := 7) (v := ax_r 30) dX11_scrape_72 rfl shC_5 rfl rfl rfl (by decide) fl_X11_209 ?_
  refine ax_iload_n (q := 76) (i := 1) dX11_scrape_75 rfl rfl rfl ?_
  refine ax_iconst (q := 77) dX11_scrape_76 rfl ki_0 ?_
  refine ax_iast (q := 78) (a := (Int32.toNatClampNeg x1)) dX11_scrape_77 rfl shC_30 h1 rfl ?_
  refine ax_aload_n (q := 79) (i := 0) dX11_scrape_78 rfl rfl rfl ?_
  refine ax_get (q := 82) (k := 0) (j := 4) (v := ax_r 5) dX11_scrape_79 rfl shC_0 rfl rfl rfl (by decide) fl_X11_42 ?_
  refine ax_dupr (q := 83) dX11_scrape_82 rfl ?_
  refine ax_get (q := 86) (k := 5) (j := 12) (v := ax_i (σ.1 5 12)) dX11_scrape_83 rfl shC_5 rfl rfl rfl (by decide) fl_X11_227 ?_
  refine ax_iconst (q := 87) dX11_scrape_86 rfl ki_1 ?_
  refine ax_isub (q := 88) dX11_scrape_87 rfl ?_
  refine ax_puti (q := 91) (k := 5) (j := 12) dX11_scrape_88 rfl shC_5 rfl rfl (by decide) fl_X11_227 rfl rfl rfl rfl ?_
  refine ax_aload_n (q := 92) (i := 0) dX11_scrape_91 rfl rfl rfl ?_
  refine ax_get (q := 95) (k := 0) (j := 4) (v := ax_r 5) dX11_scrape_92 rfl shC_0 rfl rfl rfl (by decide) fl_X11_42 ?_
  refine ax_get (q := 98) (k := 5) (j := 12) (v := ax_i ((σ.1 5 12) - (1 : Int32))) dX11_scrape_95 rfl shC_5 rfl rfl rfl (by decide) fl_X11_227 ?_
  exact ax_iret dX11_scrape_98 rfl rfl k2
set_option maxRecDepth 20000 in
theorem s_X11_ground_0 {d : Nat} (hd : 1 ≤ d) {Q : Option ax_V → ax_S → Prop} (σ : ax_S) (a0 : Int32) (k1 : ((¬ (a0 < 0)) ∧ (¬ ((σ.1 5 9) ≤ a0))) → ((5 : Int32) ≤ (σ.1 5 12)) → ax_Ct shC d mX11_remember [ax_r 0] (fun r u => r = none ∧ ax_W shC (d + 1) mX11_ground Q 35 [some (ax_r 0), some (ax_i a0)] [] u) σ) (k2 : ((¬ (a0 < 0)) ∧ (¬ ((σ.1 5 9) ≤ a0))) → (¬ ((5 : Int32) ≤ (σ.1 5 12))) → Q (some (ax_i (-1 : Int32))) (ax_ui σ 13 4 ((σ.1 13 4) + (1 : Int32)))) (k3 : (¬ ((¬ (a0 < 0)) ∧ (¬ ((σ.1 5 9) ≤ a0)))) → Q (some (ax_i (-1 : Int32))) (ax_ui σ 13 0 ((σ.1 13 0) + (1 : Int32)))) : ax_W shC (d + 1) mX11_ground Q 0 [some (ax_r 0), some (ax_i a0)] [] σ := by
  refine ax_aload_n (q := 1) (i := 0) dX11_ground_0 rfl rfl rfl ?_
  refine ax_iload_n (q := 2) (i := 1) dX11_ground_1 rfl rfl rfl ?_
  refine ax_callVfi (q := 5) (As := [ax_i a0]) (st := []) (x := (if ((¬ (a0 < 0)) ∧ (¬ ((σ.1 5 9) ≤ a0))) then (1 : Int32) else 0)) (σ2 := σ) dX11_ground_2 rfl lk_X11_160 shC_0 rfl rfl rfl rfl (Nat.le_of_ble_eq_true rfl) (f_X11_isHouse σ a0  (d := d) (by omega)) ?_
  refine ax_if_neB (tgt := 14) (q := 8) dX11_ground_5 (by decide) rfl (fun c1 => ?_) (fun c1 => ?_)
  · refine ax_aload_n (q := 15) (i := 0) dX11_ground_14 rfl rfl rfl ?_
    refine ax_get (q := 18) (k := 0) (j := 4) (v := ax_r 5) dX11_ground_15 rfl shC_0 rfl rfl rfl (by decide) fl_X11_42 ?_
    refine ax_get (q := 21) (k := 5) (j := 12) (v := ax_i (σ.1 5 12)) dX11_ground_18 rfl shC_5 rfl rfl rfl (by decide) fl_X11_227 ?_
    refine ax_iconst (q := 22) dX11_ground_21 rfl ki_5 ?_
    refine ax_icmp_ge (tgt := 31) (q := 25) dX11_ground_22 (by decide) rfl (fun c2 => ?_) (fun c2 => ?_)
    · refine ax_aload_n (q := 32) (i := 0) dX11_ground_31 rfl rfl rfl ?_
      exact ax_callVcv (q := 35) (As := []) (st := []) dX11_ground_32 rfl lk_X11_248 shC_0 rfl rfl rfl rfl (Nat.le_of_ble_eq_true rfl) (k1 c1 c2)
    · refine ax_aload_n (q := 26) (i := 0) dX11_ground_25 rfl rfl rfl ?_
      refine ax_iconst (q := 27) dX11_ground_26 rfl ki_4 ?_
      refine ax_callVfi (q := 30) (As := [ax_i (4 : Int32)]) (st := []) (x := (-1 : Int32)) (σ2 := (ax_ui σ 13 4 ((σ.1 13 4) + (1 : Int32)))) dX11_ground_27 rfl lk_X11_242 shC_0 rfl rfl rfl rfl (Nat.le_of_ble_eq_true rfl) (f_X11_refuse σ (4 : Int32) (ax_inl 4 5 (by decide) (by decide)) (d := d) (by omega)) ?_
      exact ax_iret dX11_ground_30 rfl rfl (k2 c1 c2)
  · refine ax_aload_n (q := 9) (i := 0) dX11_ground_8 rfl rfl rfl ?_
    refine ax_iconst (q := 10) dX11_ground_9 rfl ki_0 ?_
    refine ax_callVfi (q := 13) (As := [ax_i (0 : Int32)]) (st := []) (x := (-1 : Int32)) (σ2 := (ax_ui σ 13 0 ((σ.1 13 0) + (1 : Int32)))) dX11_ground_10 rfl lk_X11_242 shC_0 rfl rfl rfl rfl (Nat.le_of_ble_eq_true rfl) (f_X11_refuse σ (0 : Int32) (ax_inl 0 5 (by decide) (by decide)) (d := d) (by omega)) ?_
    exact ax_iret dX11_ground_13 rfl rfl (k3 c1)
set_option maxRecDepth 20000 in
theorem s_X11_ground_35 {d : Nat} (hd : 1 ≤ d) {Q : Option ax_V → ax_S → Prop} (σ : ax_S) (x1 : Int32) (h1 : vp_in x1 8) (k2 : Q (some (ax_i ((ax_ui (ax_ui σ 5 12 ((σ.1 5 12) - (5 : Int32))) 25 (Int32.toNatClampNeg x1) (if ((σ.1 25 (Int32.toNatClampNeg x1)) + (10 : Int32)) < (99 : Int32) then ((σ.1 25 (Int32.toNatClampNeg x1)) + (10 : Int32)) else (99 : Int32))).1 25 (Int32.toNatClampNeg x1)))) (ax_ui (ax_ui σ 5 12 ((σ.1 5 12) - (5 : Int32))) 25 (Int32.toNatClampNeg x1) (if ((σ.1 25 (Int32.toNatClampNeg x1)) + (10 : Int32)) < (99 : Int32) then ((σ.1 25 (Int32.toNatClampNeg x1)) + (10 : Int32)) else (99 : Int32)))) : ax_W shC (d + 1) mX11_ground Q 35 [some (ax_r 0), some (ax_i x1)] [] σ := by
  refine ax_aload_n (q := 36) (i := 0) dX11_ground_35 rfl rfl rfl ?_
  refine ax_get (q := 39) (k := 0) (j := 4) (v := ax_r 5) dX11_ground_36 rfl shC_0 rfl rfl rfl (by decide) fl_X11_42 ?_
  refine ax_dupr (q := 40) dX11_ground_39 rfl ?_
  refine ax_get (q := 43) (k := 5) (j := 12) (v := ax_i (σ.1 5 12)) dX11_ground_40 rfl shC_5 rfl rfl rfl (by decide) fl_X11_227 ?_
  refine ax_iconst (q := 44) dX11_ground_43 rfl ki_5 ?_
  refine ax_isub (q := 45) dX11_ground_44 rfl ?_
  refine ax_puti (q := 48) (k := 5) (j := 12) dX11_ground_45 rfl shC_5 rfl rfl (by decide) fl_X11_227 rfl rfl rfl rfl ?_
  refine ax_aload_n (q := 49) (i := 0) dX11_ground_48 rfl rfl rfl ?_
  refine ax_get (q := 52) (k := 0) (j := 4) (v := ax_r 5) dX11_ground_49 rfl shC_0 rfl rfl rfl (by decide) fl_X11_42 ?_
  refine ax_get (q := 55) (k := 5) (j := 2) (v := ax_r 25) dX11_ground_52 rfl shC_5 rfl rfl rfl (by decide) fl_X11_176 ?_
  refine ax_iload_n (q := 56) (i := 1) dX11_ground_55 rfl rfl rfl ?_
  refine ax_aload_n (q := 57) (i := 0) dX11_ground_56 rfl rfl rfl ?_
  refine ax_get (q := 60) (k := 0) (j := 4) (v := ax_r 5) dX11_ground_57 rfl shC_0 rfl rfl rfl (by decide) fl_X11_42 ?_
  refine ax_iload_n (q := 61) (i := 1) dX11_ground_60 rfl rfl rfl ?_
  refine ax_callVfi (q := 64) (As := [ax_i x1]) (st := [ax_i x1, ax_r 25]) (x := (if ((σ.1 25 (Int32.toNatClampNeg x1)) + (10 : Int32)) < (99 : Int32) then ((σ.1 25 (Int32.toNatClampNeg x1)) + (10 : Int32)) else (99 : Int32))) (σ2 := (ax_ui σ 5 12 ((σ.1 5 12) - (5 : Int32)))) dX11_ground_61 rfl lk_X11_271 shC_5 rfl rfl rfl rfl (Nat.le_of_ble_eq_true rfl) (f_X0_bearsEarthed (ax_ui σ 5 12 ((σ.1 5 12) - (5 : Int32))) x1 h1 (d := d) (by omega)) ?_
  refine ax_iast (q := 65) (a := (Int32.toNatClampNeg x1)) dX11_ground_64 rfl shC_25 h1 rfl ?_
  refine ax_aload_n (q := 66) (i := 0) dX11_ground_65 rfl rfl rfl ?_
  refine ax_get (q := 69) (k := 0) (j := 4) (v := ax_r 5) dX11_ground_66 rfl shC_0 rfl rfl rfl (by decide) fl_X11_42 ?_
  refine ax_get (q := 72) (k := 5) (j := 2) (v := ax_r 25) dX11_ground_69 rfl shC_5 rfl rfl rfl (by decide) fl_X11_176 ?_
  refine ax_iload_n (q := 73) (i := 1) dX11_ground_72 rfl rfl rfl ?_
  refine ax_iald (q := 74) (a := (Int32.toNatClampNeg x1)) (v := ((ax_ui (ax_ui σ 5 12 ((σ.1 5 12) - (5 : Int32))) 25 (Int32.toNatClampNeg x1) (if ((σ.1 25 (Int32.toNatClampNeg x1)) + (10 : Int32)) < (99 : Int32) then ((σ.1 25 (Int32.toNatClampNeg x1)) + (10 : Int32)) else (99 : Int32))).1 25 (Int32.toNatClampNeg x1))) dX11_ground_73 rfl shC_25 h1 rfl rfl ?_
  exact ax_iret dX11_ground_74 rfl rfl k2
set_option maxRecDepth 20000 in
theorem f_X11_hasBelt (σ : ax_S)   {d : Nat} (hd : 1 ≤ d) : ax_Ct shC d mX11_hasBelt [ax_r 0] (fun r u => r = some (ax_i (if (¬ ((σ.1 5 9) ≤ 0)) then (1 : Int32) else 0)) ∧ u = σ) σ := by
  obtain ⟨d, rfl⟩ : ∃ e, d = e + 1 := ⟨d - 1, by omega⟩
  refine ax_Ct.of (lv := [some (ax_r 0)]) (by decide +kernel) (fun ad => Nat.le_of_ble_eq_true rfl) (fun ad => rfl) ?_
  refine ax_aload_n (q := 1) (i := 0) dX11_hasBelt_0 rfl rfl rfl ?_
  refine ax_get (q := 4) (k := 0) (j := 4) (v := ax_r 5) dX11_hasBelt_1 rfl shC_0 rfl rfl rfl (by decide) fl_X11_42 ?_
  refine ax_get (q := 7) (k := 5) (j := 9) (v := ax_i (σ.1 5 9)) dX11_hasBelt_4 rfl shC_5 rfl rfl rfl (by decide) fl_X11_154 ?_
  have K2 : ax_W shC (d + 1) mX11_hasBelt (fun r u => r = some (ax_i (if (¬ ((σ.1 5 9) ≤ 0)) then (1 : Int32) else 0)) ∧ u = σ) 15 [some (ax_r 0)] [ax_i (if (¬ ((σ.1 5 9) ≤ 0)) then (1 : Int32) else 0)] σ := by
    exact ax_iret dX11_hasBelt_15 rfl (ax_nb _) ⟨rfl, rfl⟩
  refine ax_if_le (tgt := 14) (q := 10) dX11_hasBelt_7 (by decide) rfl (fun c1 => ?_) (fun c1 => ?_)
  · refine ax_iconst (q := 15) dX11_hasBelt_14 rfl ki_0 ?_
    exact ax_cv (if_neg (fun y => y c1)) K2
  · refine ax_iconst (q := 11) dX11_hasBelt_10 rfl ki_1 ?_
    refine ax_goto (tgt := 15) dX11_hasBelt_11 (by decide) ?_
    exact ax_cv (if_pos c1) K2
set_option maxRecDepth 20000 in
theorem f_X11_mayPass (σ : ax_S) (a0 : Int32)  {d : Nat} (hd : 1 ≤ d) : ax_Ct shC d mX11_mayPass [ax_r 0, ax_i a0] (fun r u => r = some (ax_i (if ((¬ (a0 < (1 : Int32))) ∧ ((¬ ((60 : Int32) < a0)) ∧ (¬ ((999 : Int32) < ((σ.1 5 14) + a0))))) then (1 : Int32) else 0)) ∧ u = σ) σ := by
  obtain ⟨d, rfl⟩ : ∃ e, d = e + 1 := ⟨d - 1, by omega⟩
  refine ax_Ct.of (lv := [some (ax_r 0), some (ax_i a0)]) (by decide +kernel) (fun ad => Nat.le_of_ble_eq_true rfl) (fun ad => rfl) ?_
  refine ax_iload_n (q := 1) (i := 1) dX11_mayPass_0 rfl rfl rfl ?_
  refine ax_iconst (q := 2) dX11_mayPass_1 rfl ki_1 ?_
  have K4 : ax_W shC (d + 1) mX11_mayPass (fun r u => r = some (ax_i (if ((¬ (a0 < (1 : Int32))) ∧ ((¬ ((60 : Int32) < a0)) ∧ (¬ ((999 : Int32) < ((σ.1 5 14) + a0))))) then (1 : Int32) else 0)) ∧ u = σ) 31 [some (ax_r 0), some (ax_i a0)] [ax_i (if ((¬ (a0 < (1 : Int32))) ∧ ((¬ ((60 : Int32) < a0)) ∧ (¬ ((999 : Int32) < ((σ.1 5 14) + a0))))) then (1 : Int32) else 0)] σ := by
    exact ax_iret dX11_mayPass_31 rfl (ax_nb _) ⟨rfl, rfl⟩
  refine ax_icmp_lt (tgt := 30) (q := 5) dX11_mayPass_2 (by decide) rfl (fun c1 => ?_) (fun c1 => ?_)
  · refine ax_iconst (q := 31) dX11_mayPass_30 rfl ki_0 ?_
    exact ax_cv (if_neg (fun z => (fun y => y c1) z.1)) K4
  · refine ax_iload_n (q := 6) (i := 1) dX11_mayPass_5 rfl rfl rfl ?_
    refine ax_bipush (q := 8) dX11_mayPass_6 rfl kb_60 ?_
    refine ax_icmp_gt (tgt := 30) (q := 11) dX11_mayPass_8 (by decide) rfl (fun c2 => ?_) (fun c2 => ?_)
    · refine ax_iconst (q := 31) dX11_mayPass_30 rfl ki_0 ?_
      exact ax_cv (if_neg (fun z => (fun z => (fun y => y c2) z.1) z.2)) K4
    · refine ax_aload_n (q := 12) (i := 0) dX11_mayPass_11 rfl rfl rfl ?_
      refine ax_get (q := 15) (k := 0) (j := 4) (v := ax_r 5) dX11_mayPass_12 rfl shC_0 rfl rfl rfl (by decide) fl_X11_42 ?_
      refine ax_get (q := 18) (k := 5) (j := 14) (v := ax_i (σ.1 5 14)) dX11_mayPass_15 rfl shC_5 rfl rfl rfl (by decide) fl_X11_224 ?_
      refine ax_iload_n (q := 19) (i := 1) dX11_mayPass_18 rfl rfl rfl ?_
      refine ax_iadd (q := 20) dX11_mayPass_19 rfl ?_
      refine ax_sipush (q := 23) dX11_mayPass_20 rfl ks_999 ?_
      refine ax_icmp_gt (tgt := 30) (q := 26) dX11_mayPass_23 (by decide) rfl (fun c3 => ?_) (fun c3 => ?_)
      · refine ax_iconst (q := 31) dX11_mayPass_30 rfl ki_0 ?_
        exact ax_cv (if_neg (fun z => (fun z => (fun y => y c3) z.2) z.2)) K4
      · refine ax_iconst (q := 27) dX11_mayPass_26 rfl ki_1 ?_
        refine ax_goto (tgt := 31) dX11_mayPass_27 (by decide) ?_
        exact ax_cv (if_pos ⟨c1, ⟨c2, c3⟩⟩) K4
set_option maxRecDepth 20000 in
theorem s_X11_summers_0 {d : Nat} (hd : 1 ≤ d) {Q : Option ax_V → ax_S → Prop} (σ : ax_S) (a0 : Int32) (k1 : (¬ ((σ.1 5 9) ≤ 0)) → ((¬ (a0 < (1 : Int32))) ∧ ((¬ ((60 : Int32) < a0)) ∧ (¬ ((999 : Int32) < ((σ.1 5 14) + a0))))) → ax_W shC (d + 1) mX11_summers Q 29 [some (ax_r 0), some (ax_i a0), some (ax_i (0 : Int32))] [] σ) (k2 : (¬ ((σ.1 5 9) ≤ 0)) → (¬ ((¬ (a0 < (1 : Int32))) ∧ ((¬ ((60 : Int32) < a0)) ∧ (¬ ((999 : Int32) < ((σ.1 5 14) + a0)))))) → Q (some (ax_i (-1 : Int32))) (ax_ui σ 13 1 ((σ.1 13 1) + (1 : Int32)))) (k3 : (¬ (¬ ((σ.1 5 9) ≤ 0))) → Q (some (ax_i (-1 : Int32))) (ax_ui σ 13 0 ((σ.1 13 0) + (1 : Int32)))) : ax_W shC (d + 1) mX11_summers Q 0 [some (ax_r 0), some (ax_i a0), none] [] σ := by
  refine ax_aload_n (q := 1) (i := 0) dX11_summers_0 rfl rfl rfl ?_
  refine ax_callVfi (q := 4) (As := []) (st := []) (x := (if (¬ ((σ.1 5 9) ≤ 0)) then (1 : Int32) else 0)) (σ2 := σ) dX11_summers_1 rfl lk_X11_274 shC_0 rfl rfl rfl rfl (Nat.le_of_ble_eq_true rfl) (f_X11_hasBelt σ   (d := d) (by omega)) ?_
  refine ax_if_neB (tgt := 13) (q := 7) dX11_summers_4 (by decide) rfl (fun c1 => ?_) (fun c1 => ?_)
  · refine ax_aload_n (q := 14) (i := 0) dX11_summers_13 rfl rfl rfl ?_
    refine ax_iload_n (q := 15) (i := 1) dX11_summers_14 rfl rfl rfl ?_
    refine ax_callVfi (q := 18) (As := [ax_i a0]) (st := []) (x := (if ((¬ (a0 < (1 : Int32))) ∧ ((¬ ((60 : Int32) < a0)) ∧ (¬ ((999 : Int32) < ((σ.1 5 14) + a0))))) then (1 : Int32) else 0)) (σ2 := σ) dX11_summers_15 rfl lk_X11_278 shC_0 rfl rfl rfl rfl (Nat.le_of_ble_eq_true rfl) (f_X11_mayPass σ a0  (d := d) (by omega)) ?_
    refine ax_if_neB (tgt := 27) (q := 21) dX11_summers_18 (by decide) rfl (fun c2 => ?_) (fun c2 => ?_)
    · refine ax_iconst (q := 28) dX11_summers_27 rfl ki_0 ?_
      refine ax_istore_n (q := 29) (i := 2) (lv2 := [some (ax_r 0), some (ax_i a0), some (ax_i (0 : Int32))]) dX11_summers_28 rfl rfl (by decide) rfl rfl ?_
      exact (k1 c1 c2)
    · refine ax_aload_n (q := 22) (i := 0) dX11_summers_21 rfl rfl rfl ?_
      refine ax_iconst (q := 23) dX11_summers_22 rfl ki_1 ?_
      refine ax_callVfi (q := 26) (As := [ax_i (1 : Int32)]) (st := []) (x := (-1 : Int32)) (σ2 := (ax_ui σ 13 1 ((σ.1 13 1) + (1 : Int32)))) dX11_summers_23 rfl lk_X11_242 shC_0 rfl rfl rfl rfl (Nat.le_of_ble_eq_true rfl) (f_X11_refuse σ (1 : Int32) (ax_inl 1 5 (by decide) (by decide)) (d := d) (by omega)) ?_
      exact ax_iret dX11_summers_26 rfl rfl (k2 c1 c2)
  · refine ax_aload_n (q := 8) (i := 0) dX11_summers_7 rfl rfl rfl ?_
    refine ax_iconst (q := 9) dX11_summers_8 rfl ki_0 ?_
    refine ax_callVfi (q := 12) (As := [ax_i (0 : Int32)]) (st := []) (x := (-1 : Int32)) (σ2 := (ax_ui σ 13 0 ((σ.1 13 0) + (1 : Int32)))) dX11_summers_9 rfl lk_X11_242 shC_0 rfl rfl rfl rfl (Nat.le_of_ble_eq_true rfl) (f_X11_refuse σ (0 : Int32) (ax_inl 0 5 (by decide) (by decide)) (d := d) (by omega)) ?_
    exact ax_iret dX11_summers_12 rfl rfl (k3 c1)
set_option maxRecDepth 20000 in
theorem s_X11_summers_29 {d : Nat} (hd : 0 ≤ d) {Q : Option ax_V → ax_S → Prop} (σ : ax_S) (x1 : Int32) (x2 : Int32) (k1 : (x1 ≤ x2) → Q (some (ax_i (σ.1 5 14))) σ) (k2 : (¬ (x1 ≤ x2)) → ax_Ct shC d mX11_remember [ax_r 0] (fun r u => r = none ∧ ax_W shC (d + 1) mX11_summers Q 38 [some (ax_r 0), some (ax_i x1), some (ax_i x2)] [] u) σ) : ax_W shC (d + 1) mX11_summers Q 29 [some (ax_r 0), some (ax_i x1), some (ax_i x2)] [] σ := by
  refine ax_iload_n (q := 30) (i := 2) dX11_summers_29 rfl rfl rfl ?_
  refine ax_iload_n (q := 31) (i := 1) dX11_summers_30 rfl rfl rfl ?_
  refine ax_icmp_ge (tgt := 51) (q := 34) dX11_summers_31 (by decide) rfl (fun c1 => ?_) (fun c1 => ?_)
  · refine ax_aload_n (q := 52) (i := 0) dX11_summers_51 rfl rfl rfl ?_
    refine ax_get (q := 55) (k := 0) (j := 4) (v := ax_r 5) dX11_summers_52 rfl shC_0 rfl rfl rfl (by decide) fl_X11_42 ?_
    refine ax_get (q := 58) (k := 5) (j := 14) (v := ax_i (σ.1 5 14)) dX11_summers_55 rfl shC_5 rfl rfl rfl (by decide) fl_X11_224 ?_
    exact ax_iret dX11_summers_58 rfl rfl (k1 c1)
  · refine ax_aload_n (q := 35) (i := 0) dX11_summers_34 rfl rfl rfl ?_
    exact ax_callVcv (q := 38) (As := []) (st := []) dX11_summers_35 rfl lk_X11_248 shC_0 rfl rfl rfl rfl (Nat.le_of_ble_eq_true rfl) (k2 c1)
set_option maxRecDepth 20000 in
theorem s_X11_summers_38 {d : Nat} (hd : 0 ≤ d) {Q : Option ax_V → ax_S → Prop} (σ : ax_S) (x1 : Int32) (x2 : Int32) (k1 : ax_Ct shC d mX0_passSummer [ax_r 5] (fun r u => r = none ∧ ax_W shC (d + 1) mX11_summers Q 45 [some (ax_r 0), some (ax_i x1), some (ax_i x2)] [] u) σ) : ax_W shC (d + 1) mX11_summers Q 38 [some (ax_r 0), some (ax_i x1), some (ax_i x2)] [] σ := by
  refine ax_aload_n (q := 39) (i := 0) dX11_summers_38 rfl rfl rfl ?_
  refine ax_get (q := 42) (k := 0) (j := 4) (v := ax_r 5) dX11_summers_39 rfl shC_0 rfl rfl rfl (by decide) fl_X11_42 ?_
  exact ax_callVcv (q := 45) (As := []) (st := []) dX11_summers_42 rfl lk_X11_281 shC_5 rfl rfl rfl rfl (Nat.le_of_ble_eq_true rfl) k1
set_option maxRecDepth 20000 in
theorem s_X11_summers_45 {d : Nat} (hd : 0 ≤ d) {Q : Option ax_V → ax_S → Prop} (σ : ax_S) (x1 : Int32) (x2 : Int32) (k1 : ax_W shC (d + 1) mX11_summers Q 29 [some (ax_r 0), some (ax_i x1), some (ax_i (x2 + (1 : Int32)))] [] σ) : ax_W shC (d + 1) mX11_summers Q 45 [some (ax_r 0), some (ax_i x1), some (ax_i x2)] [] σ := by
  refine ax_iincK (q := 48) (lv2 := [some (ax_r 0), some (ax_i x1), some (ax_i (x2 + (1 : Int32)))]) dX11_summers_45 rfl rfl ki_1 (by decide) rfl rfl ?_
  refine ax_goto (tgt := 29) dX11_summers_48 (by decide) ?_
  exact k1
