set_option maxRecDepth 20000 in
theorem s_X8_arrive_0 {d : Nat} (hd : 1 ≤ d) {Q : Option ax_V → ax_S → Prop} (σ : ax_S) (a0 : Int32) (a1 : Int32) (a2 : Int32) (a3 : Int32) (h1 : (¬ (((σ.1 6 7) >>> (a1 &&& 31)) &&& (1 : Int32)) = (1 : Int32)) → vp_in a1 8) (h2 : (¬ (((σ.1 6 7) >>> (a1 &&& 31)) &&& (1 : Int32)) = (1 : Int32)) → (a2 = (-1 : Int32)) → (¬ (v_J6_bitCount_0f7a4 (a0 &&& (σ.1 31 (Int32.toNatClampNeg a1)))) = 0) → ¬ ((v_J6_bitCount_0f7a4 (a0 &&& (σ.1 31 (Int32.toNatClampNeg a1)))) + (1 : Int32)) = 0) (h3 : (¬ (((σ.1 6 7) >>> (a1 &&& 31)) &&& (1 : Int32)) = (1 : Int32)) → (a2 = (-1 : Int32)) → (¬ (v_J6_bitCount_0f7a4 (a0 &&& (σ.1 31 (Int32.toNatClampNeg a1)))) = 0) → ((σ.1 4 5) = (-1 : Int32)) → ¬ (v_J6_bitCount_0f7a4 (a0 &&& (σ.1 31 (Int32.toNatClampNeg a1)))) = 0) (h4 : (¬ (((σ.1 6 7) >>> (a1 &&& 31)) &&& (1 : Int32)) = (1 : Int32)) → (a2 = (-1 : Int32)) → (¬ (v_J6_bitCount_0f7a4 (a0 &&& (σ.1 31 (Int32.toNatClampNeg a1)))) = 0) → ((σ.1 4 5) = (-1 : Int32)) → vp_in a1 8) (k5 : (¬ (((σ.1 6 7) >>> (a1 &&& 31)) &&& (1 : Int32)) = (1 : Int32)) → (a2 = (-1 : Int32)) → (¬ (v_J6_bitCount_0f7a4 (a0 &&& (σ.1 31 (Int32.toNatClampNeg a1)))) = 0) → ((σ.1 4 5) = (-1 : Int32)) → ax_Ct shC d mX8_pass [ax_r 6, ax_i a1, ax_i (a0 &&& (σ.1 31 (Int32.toNatClampNeg a1))), ax_i ((a3 - (if (0 : Int32) < (if ((a3 / ((v_J6_bitCount_0f7a4 (a0 &&& (σ.1 31 (Int32.toNatClampNeg a1)))) + (1 : Int32))) + (σ.1 5 13)) < a3 then ((a3 / ((v_J6_bitCount_0f7a4 (a0 &&& (σ.1 31 (Int32.toNatClampNeg a1)))) + (1 : Int32))) + (σ.1 5 13)) else a3) then (if ((a3 / ((v_J6_bitCount_0f7a4 (a0 &&& (σ.1 31 (Int32.toNatClampNeg a1)))) + (1 : Int32))) + (σ.1 5 13)) < a3 then ((a3 / ((v_J6_bitCount_0f7a4 (a0 &&& (σ.1 31 (Int32.toNatClampNeg a1)))) + (1 : Int32))) + (σ.1 5 13)) else a3) else (0 : Int32))) / (v_J6_bitCount_0f7a4 (a0 &&& (σ.1 31 (Int32.toNatClampNeg a1)))))] (fun r u => r = none ∧ ax_W shC (d + 1) mX8_arrive Q 213 [none, none, none, none, none, none, none, none, none] [] u) (ax_ui (ax_ui σ 6 7 ((σ.1 6 7) ||| ((1 : Int32) <<< (a1 &&& 31)))) 32 (Int32.toNatClampNeg a1) ((σ.1 32 (Int32.toNatClampNeg a1)) + (a3 - (((a3 - (if (0 : Int32) < (if ((a3 / ((v_J6_bitCount_0f7a4 (a0 &&& (σ.1 31 (Int32.toNatClampNeg a1)))) + (1 : Int32))) + (σ.1 5 13)) < a3 then ((a3 / ((v_J6_bitCount_0f7a4 (a0 &&& (σ.1 31 (Int32.toNatClampNeg a1)))) + (1 : Int32))) + (σ.1 5 13)) else a3) then (if ((a3 / ((v_J6_bitCount_0f7a4 (a0 &&& (σ.1 31 (Int32.toNatClampNeg a1)))) + (1 : Int32))) + (σ.1 5 13)) < a3 then ((a3 / ((v_J6_bitCount_0f7a4 (a0 &&& (σ.1 31 (Int32.toNatClampNeg a1)))) + (1 : Int32))) + (σ.1 5 13)) else a3) else (0 : Int32))) / (v_J6_bitCount_0f7a4 (a0 &&& (σ.1 31 (Int32.toNatClampNeg a1))))) * (v_J6_bitCount_0f7a4 (a0 &&& (σ.1 31 (Int32.toNatClampNeg a1))))))))) (h6 : (¬ (((σ.1 6 7) >>> (a1 &&& 31)) &&& (1 : Int32)) = (1 : Int32)) → (a2 = (-1 : Int32)) → (¬ (v_J6_bitCount_0f7a4 (a0 &&& (σ.1 31 (Int32.toNatClampNeg a1)))) = 0) → (¬ ((σ.1 4 5) = (-1 : Int32))) → vp_in a1 8) (k7 : (¬ (((σ.1 6 7) >>> (a1 &&& 31)) &&& (1 : Int32)) = (1 : Int32)) → (a2 = (-1 : Int32)) → (¬ (v_J6_bitCount_0f7a4 (a0 &&& (σ.1 31 (Int32.toNatClampNeg a1)))) = 0) → (¬ ((σ.1 4 5) = (-1 : Int32))) → ax_Ct shC d mX7_worth [ax_r 4] (fun r u => ∃ x : Int32, r = some (ax_i x) ∧ ax_W shC (d + 1) mX8_arrive Q 166 [some (ax_r 6), none, some (ax_i a1), none, some (ax_i a3), some (ax_i (a0 &&& (σ.1 31 (Int32.toNatClampNeg a1)))), some (ax_i (v_J6_bitCount_0f7a4 (a0 &&& (σ.1 31 (Int32.toNatClampNeg a1))))), none, none] (ax_i x :: []) u) (ax_ui (ax_ui (ax_ui (ax_ui (ax_ui (ax_ui (ax_ui σ 6 7 ((σ.1 6 7) ||| ((1 : Int32) <<< (a1 &&& 31)))) 21 0 a3) 21 1 (σ.1 24 (Int32.toNatClampNeg a1))) 21 2 (σ.1 25 (Int32.toNatClampNeg a1))) 21 3 (σ.1 26 (Int32.toNatClampNeg a1))) 21 4 (v_J6_bitCount_0f7a4 (a0 &&& (σ.1 31 (Int32.toNatClampNeg a1))))) 21 5 (σ.1 5 13))) (h8 : (¬ (((σ.1 6 7) >>> (a1 &&& 31)) &&& (1 : Int32)) = (1 : Int32)) → (a2 = (-1 : Int32)) → (¬ (¬ (v_J6_bitCount_0f7a4 (a0 &&& (σ.1 31 (Int32.toNatClampNeg a1)))) = 0)) → vp_in a1 8) (k9 : (¬ (((σ.1 6 7) >>> (a1 &&& 31)) &&& (1 : Int32)) = (1 : Int32)) → (a2 = (-1 : Int32)) → (¬ (¬ (v_J6_bitCount_0f7a4 (a0 &&& (σ.1 31 (Int32.toNatClampNeg a1)))) = 0)) → Q none (ax_ui (ax_ui σ 6 7 ((σ.1 6 7) ||| ((1 : Int32) <<< (a1 &&& 31)))) 32 (Int32.toNatClampNeg a1) ((σ.1 32 (Int32.toNatClampNeg a1)) + a3))) (h10 : (¬ (((σ.1 6 7) >>> (a1 &&& 31)) &&& (1 : Int32)) = (1 : Int32)) → (¬ (a2 = (-1 : Int32))) → (¬ (v_J6_bitCount_0f7a4 ((a0 &&& (σ.1 31 (Int32.toNatClampNeg a1))) &&& (((1 : Int32) <<< (a2 &&& 31)) ^^^ (-1 : Int32)))) = 0) → ¬ ((v_J6_bitCount_0f7a4 ((a0 &&& (σ.1 31 (Int32.toNatClampNeg a1))) &&& (((1 : Int32) <<< (a2 &&& 31)) ^^^ (-1 : Int32)))) + (1 : Int32)) = 0) (h11 : (¬ (((σ.1 6 7) >>> (a1 &&& 31)) &&& (1 : Int32)) = (1 : Int32)) → (¬ (a2 = (-1 : Int32))) → (¬ (v_J6_bitCount_0f7a4 ((a0 &&& (σ.1 31 (Int32.toNatClampNeg a1))) &&& (((1 : Int32) <<< (a2 &&& 31)) ^^^ (-1 : Int32)))) = 0) → ((σ.1 4 5) = (-1 : Int32)) → ¬ (v_J6_bitCount_0f7a4 ((a0 &&& (σ.1 31 (Int32.toNatClampNeg a1))) &&& (((1 : Int32) <<< (a2 &&& 31)) ^^^ (-1 : Int32)))) = 0) (h12 : (¬ (((σ.1 6 7) >>> (a1 &&& 31)) &&& (1 : Int32)) = (1 : Int32)) → (¬ (a2 = (-1 : Int32))) → (¬ (v_J6_bitCount_0f7a4 ((a0 &&& (σ.1 31 (Int32.toNatClampNeg a1))) &&& (((1 : Int32) <<< (a2 &&& 31)) ^^^ (-1 : Int32)))) = 0) → ((σ.1 4 5) = (-1 : Int32)) → vp_in a1 8) (k13 : (¬ (((σ.1 6 7) >>> (a1 &&& 31)) &&& (1 : Int32)) = (1 : Int32)) → (¬ (a2 = (-1 : Int32))) → (¬ (v_J6_bitCount_0f7a4 ((a0 &&& (σ.1 31 (Int32.toNatClampNeg a1))) &&& (((1 : Int32) <<< (a2 &&& 31)) ^^^ (-1 : Int32)))) = 0) → ((σ.1 4 5) = (-1 : Int32)) → ax_Ct shC d mX8_pass [ax_r 6, ax_i a1, ax_i ((a0 &&& (σ.1 31 (Int32.toNatClampNeg a1))) &&& (((1 : Int32) <<< (a2 &&& 31)) ^^^ (-1 : Int32))), ax_i ((a3 - (if (0 : Int32) < (if ((a3 / ((v_J6_bitCount_0f7a4 ((a0 &&& (σ.1 31 (Int32.toNatClampNeg a1))) &&& (((1 : Int32) <<< (a2 &&& 31)) ^^^ (-1 : Int32)))) + (1 : Int32))) + (σ.1 5 13)) < a3 then ((a3 / ((v_J6_bitCount_0f7a4 ((a0 &&& (σ.1 31 (Int32.toNatClampNeg a1))) &&& (((1 : Int32) <<< (a2 &&& 31)) ^^^ (-1 : Int32)))) + (1 : Int32))) + (σ.1 5 13)) else a3) then (if ((a3 / ((v_J6_bitCount_0f7a4 ((a0 &&& (σ.1 31 (Int32.toNatClampNeg a1))) &&& (((1 : Int32) <<< (a2 &&& 31)) ^^^ (-1 : Int32)))) + (1 : Int32))) + (σ.1 5 13)) < a3 then ((a3 / ((v_J6_bitCount_0f7a4 ((a0 &&& (σ.1 31 (Int32.toNatClampNeg a1))) &&& (((1 : Int32) <<< (a2 &&& 31)) ^^^ (-1 : Int32)))) + (1 : Int32))) + (σ.1 5 13)) else a3) else (0 : Int32))) / (v_J6_bitCount_0f7a4 ((a0 &&& (σ.1 31 (Int32.toNatClampNeg a1))) &&& (((1 : Int32) <<< (a2 &&& 31)) ^^^ (-1 : Int32)))))] (fun r u => r = none ∧ ax_W shC (d + 1) mX8_arrive Q 213 [none, none, none, none, none, none, none, none, none] [] u) (ax_ui (ax_ui σ 6 7 ((σ.1 6 7) ||| ((1 : Int32) <<< (a1 &&& 31)))) 32 (Int32.toNatClampNeg a1) ((σ.1 32 (Int32.toNatClampNeg a1)) + (a3 - (((a3 - (if (0 : Int32) < (if ((a3 / ((v_J6_bitCount_0f7a4 ((a0 &&& (σ.1 31 (Int32.toNatClampNeg a1))) &&& (((1 : Int32) <<< (a2 &&& 31)) ^^^ (-1 : Int32)))) + (1 : Int32))) + (σ.1 5 13)) < a3 then ((a3 / ((v_J6_bitCount_0f7a4 ((a0 &&& (σ.1 31 (Int32.toNatClampNeg a1))) &&& (((1 : Int32) <<< (a2 &&& 31)) ^^^ (-1 : Int32)))) + (1 : Int32))) + (σ.1 5 13)) else a3) then (if ((a3 / ((v_J6_bitCount_0f7a4 ((a0 &&& (σ.1 31 (Int32.toNatClampNeg a1))) &&& (((1 : Int32) <<< (a2 &&& 31)) ^^^ (-1 : Int32)))) + (1 : Int32))) + (σ.1 5 13)) < a3 then ((a3 / ((v_J6_bitCount_0f7a4 ((a0 &&& (σ.1 31 (Int32.toNatClampNeg a1))) &&& (((1 : Int32) <<< (a2 &&& 31)) ^^^ (-1 : Int32)))) + (1 : Int32))) + (σ.1 5 13)) else a3) else (0 : Int32))) / (v_J6_bitCount_0f7a4 ((a0 &&& (σ.1 31 (Int32.toNatClampNeg a1))) &&& (((1 : Int32) <<< (a2 &&& 31)) ^^^ (-1 : Int32))))) * (v_J6_bitCount_0f7a4 ((a0 &&& (σ.1 31 (Int32.toNatClampNeg a1))) &&& (((1 : Int32) <<< (a2 &&& 31)) ^^^ (-1 : Int32))))))))) (h14 : (¬ (((σ.1 6 7) >>> (a1 &&& 31)) &&& (1 : Int32)) = (1 : Int32)) → (¬ (a2 = (-1 : Int32))) → (¬ (v_J6_bitCount_0f7a4 ((a0 &&& (σ.1 31 (Int32.toNatClampNeg a1))) &&& (((1 : Int32) <<< (a2 &&& 31)) ^^^ (-1 : Int32)))) = 0) → (¬ ((σ.1 4 5) = (-1 : Int32))) → vp_in a1 8) (k15 : (¬ (((σ.1 6 7) >>> (a1 &&& 31)) &&& (1 : Int32)) = (1 : Int32)) → (¬ (a2 = (-1 : Int32))) → (¬ (v_J6_bitCount_0f7a4 ((a0 &&& (σ.1 31 (Int32.toNatClampNeg a1))) &&& (((1 : Int32) <<< (a2 &&& 31)) ^^^ (-1 : Int32)))) = 0) → (¬ ((σ.1 4 5) = (-1 : Int32))) → ax_Ct shC d mX7_worth [ax_r 4] (fun r u => ∃ x : Int32, r = some (ax_i x) ∧ ax_W shC (d + 1) mX8_arrive Q 166 [some (ax_r 6), none, some (ax_i a1), none, some (ax_i a3), some (ax_i ((a0 &&& (σ.1 31 (Int32.toNatClampNeg a1))) &&& (((1 : Int32) <<< (a2 &&& 31)) ^^^ (-1 : Int32)))), some (ax_i (v_J6_bitCount_0f7a4 ((a0 &&& (σ.1 31 (Int32.toNatClampNeg a1))) &&& (((1 : Int32) <<< (a2 &&& 31)) ^^^ (-1 : Int32))))), none, none] (ax_i x :: []) u) (ax_ui (ax_ui (ax_ui (ax_ui (ax_ui (ax_ui (ax_ui σ 6 7 ((σ.1 6 7) ||| ((1 : Int32) <<< (a1 &&& 31)))) 21 0 a3) 21 1 (σ.1 24 (Int32.toNatClampNeg a1))) 21 2 (σ.1 25 (Int32.toNatClampNeg a1))) 21 3 (σ.1 26 (Int32.toNatClampNeg a1))) 21 4 (v_J6_bitCount_0f7a4 ((a0 &&& (σ.1 31 (Int32.toNatClampNeg a1))) &&& (((1 : Int32) <<< (a2 &&& 31)) ^^^ (-1 : Int32))))) 21 5 (σ.1 5 13))) (h16 : (¬ (((σ.1 6 7) >>> (a1 &&& 31)) &&& (1 : Int32)) = (1 : Int32)) → (¬ (a2 = (-1 : Int32))) → (¬ (¬ (v_J6_bitCount_0f7a4 ((a0 &&& (σ.1 31 (Int32.toNatClampNeg a1))) &&& (((1 : Int32) <<< (a2 &&& 31)) ^^^ (-1 : Int32)))) = 0)) → vp_in a1 8) (k17 : (¬ (((σ.1 6 7) >>> (a1 &&& 31)) &&& (1 : Int32)) = (1 : Int32)) → (¬ (a2 = (-1 : Int32))) → (¬ (¬ (v_J6_bitCount_0f7a4 ((a0 &&& (σ.1 31 (Int32.toNatClampNeg a1))) &&& (((1 : Int32) <<< (a2 &&& 31)) ^^^ (-1 : Int32)))) = 0)) → Q none (ax_ui (ax_ui σ 6 7 ((σ.1 6 7) ||| ((1 : Int32) <<< (a1 &&& 31)))) 32 (Int32.toNatClampNeg a1) ((σ.1 32 (Int32.toNatClampNeg a1)) + a3))) (h18 : (¬ (¬ (((σ.1 6 7) >>> (a1 &&& 31)) &&& (1 : Int32)) = (1 : Int32))) → vp_in a1 8) (k19 : (¬ (¬ (((σ.1 6 7) >>> (a1 &&& 31)) &&& (1 : Int32)) = (1 : Int32))) → Q none (ax_ui σ 32 (Int32.toNatClampNeg a1) ((σ.1 32 (Int32.toNatClampNeg a1)) + a3))) : ax_W shC (d + 1) mX8_arrive Q 0 [some (ax_r 6), some (ax_i a0), some (ax_i a1), some (ax_i a2), some (ax_i a3), none, none, none, none] [] σ := by
  refine ax_aload_n (q := 1) (i := 0) dX8_arrive_0 rfl rfl rfl ?_
  refine ax_get (q := 4) (k := 6) (j := 7) (v := ax_i (σ.1 6 7)) dX8_arrive_1 rfl shC_6 rfl rfl rfl (by decide) fl_X8_42 ?_
  refine ax_iload_n (q := 5) (i := 2) dX8_arrive_4 rfl rfl rfl ?_
  refine ax_callNfi (q := 8) (As := [ax_i (σ.1 6 7), ax_i a1]) (st := []) (x := (((σ.1 6 7) >>> (a1 &&& 31)) &&& (1 : Int32))) (σ2 := σ) dX8_arrive_5 rfl lk_X8_60 rfl rfl (Nat.le_of_ble_eq_true rfl) (f_X11_bitOf (sh := shC) σ (σ.1 6 7) a1  (d := d) (by omega)) ?_
  refine ax_iconst (q := 9) dX8_arrive_8 rfl ki_1 ?_
  refine ax_icmp_ne (tgt := 24) (q := 12) dX8_arrive_9 (by decide) rfl (fun c1 => ?_) (fun c1 => ?_)
  · refine ax_aload_n (q := 25) (i := 0) dX8_arrive_24 rfl rfl rfl ?_
    refine ax_dupr (q := 26) dX8_arrive_25 rfl ?_
    refine ax_get (q := 29) (k := 6) (j := 7) (v := ax_i (σ.1 6 7)) dX8_arrive_26 rfl shC_6 rfl rfl rfl (by decide) fl_X8_42 ?_
    refine ax_iconst (q := 30) dX8_arrive_29 rfl ki_1 ?_
    refine ax_iload_n (q := 31) (i := 2) dX8_arrive_30 rfl rfl rfl ?_
    refine ax_ishl (q := 32) dX8_arrive_31 rfl ?_
    refine ax_ior (q := 33) dX8_arrive_32 rfl ?_
    refine ax_puti (q := 36) (k := 6) (j := 7) dX8_arrive_33 rfl shC_6 rfl rfl (by decide) fl_X8_42 rfl rfl rfl rfl ?_
    refine ax_aload_n (q := 37) (i := 0) dX8_arrive_36 rfl rfl rfl ?_
    refine ax_get (q := 40) (k := 6) (j := 0) (v := ax_r 5) dX8_arrive_37 rfl shC_6 rfl rfl rfl (by decide) fl_X8_24 ?_
    refine ax_iload_n (q := 41) (i := 1) dX8_arrive_40 rfl rfl rfl ?_
    refine ax_iload_n (q := 42) (i := 2) dX8_arrive_41 rfl rfl rfl ?_
    refine ax_callVfi (q := 45) (As := [ax_i a0, ax_i a1]) (st := []) (x := (a0 &&& (σ.1 31 (Int32.toNatClampNeg a1)))) (σ2 := (ax_ui σ 6 7 ((σ.1 6 7) ||| ((1 : Int32) <<< (a1 &&& 31))))) dX8_arrive_42 rfl lk_X8_64 shC_5 rfl rfl rfl rfl (Nat.le_of_ble_eq_true rfl) (f_X0_touching (ax_ui σ 6 7 ((σ.1 6 7) ||| ((1 : Int32) <<< (a1 &&& 31)))) a0 a1 (h1 c1) (d := d) (by omega)) ?_
    refine ax_istore (q := 47) (lv2 := [some (ax_r 6), some (ax_i a0), some (ax_i a1), some (ax_i a2), some (ax_i a3), some (ax_i (a0 &&& (σ.1 31 (Int32.toNatClampNeg a1)))), none, none, none]) dX8_arrive_45 rfl (by decide) rfl rfl ?_
    refine ax_iload_n (q := 48) (i := 3) dX8_arrive_47 rfl rfl rfl ?_
    refine ax_iconst (q := 49) dX8_arrive_48 rfl ki_m1 ?_
    refine ax_icmp_eq (tgt := 62) (q := 52) dX8_arrive_49 (by decide) rfl (fun c2 => ?_) (fun c2 => ?_)
    · refine ax_iload (q := 64) dX8_arrive_62 rfl rfl ?_
      refine ax_callSfi (q := 67) (As := [ax_i (a0 &&& (σ.1 31 (Int32.toNatClampNeg a1)))]) (st := []) (x := (v_J6_bitCount_0f7a4 (a0 &&& (σ.1 31 (Int32.toNatClampNeg a1))))) (σ2 := (ax_ui σ 6 7 ((σ.1 6 7) ||| ((1 : Int32) <<< (a1 &&& 31))))) dX8_arrive_64 rfl lk_X8_69 rfl rfl (Nat.le_of_ble_eq_true rfl) (f_J6_bitCount_0f7a4 (sh := shC) (ax_ui σ 6 7 ((σ.1 6 7) ||| ((1 : Int32) <<< (a1 &&& 31)))) (a0 &&& (σ.1 31 (Int32.toNatClampNeg a1)))  (d := d) (by omega)) ?_
      refine ax_istore (q := 69) (lv2 := [some (ax_r 6), some (ax_i a0), some (ax_i a1), some (ax_i a2), some (ax_i a3), some (ax_i (a0 &&& (σ.1 31 (Int32.toNatClampNeg a1)))), some (ax_i (v_J6_bitCount_0f7a4 (a0 &&& (σ.1 31 (Int32.toNatClampNeg a1))))), none, none]) dX8_arrive_67 rfl (by decide) rfl rfl ?_
      refine ax_iload (q := 71) dX8_arrive_69 rfl rfl ?_
      refine ax_if_ne (tgt := 86) (q := 74) dX8_arrive_71 (by decide) rfl (fun c3 => ?_) (fun c3 => ?_)
      · refine ax_iload (q := 88) dX8_arrive_86 rfl rfl ?_
        refine ax_iload (q := 90) dX8_arrive_88 rfl rfl ?_
        refine ax_iconst (q := 91) dX8_arrive_90 rfl ki_1 ?_
        refine ax_iadd (q := 92) dX8_arrive_91 rfl ?_
        refine ax_idiv (q := 93) dX8_arrive_92 rfl (h2 c1 c2 c3) ?_
        refine ax_aload_n (q := 94) (i := 0) dX8_arrive_93 rfl rfl rfl ?_
        refine ax_get (q := 97) (k := 6) (j := 0) (v := ax_r 5) dX8_arrive_94 rfl shC_6 rfl rfl rfl (by decide) fl_X8_24 ?_
        refine ax_get (q := 100) (k := 5) (j := 13) (v := ax_i (σ.1 5 13)) dX8_arrive_97 rfl shC_5 rfl rfl rfl (by decide) fl_X8_75 ?_
        refine ax_iadd (q := 101) dX8_arrive_100 rfl ?_
        refine ax_istore (q := 103) (lv2 := [some (ax_r 6), some (ax_i a0), some (ax_i a1), some (ax_i a2), some (ax_i a3), some (ax_i (a0 &&& (σ.1 31 (Int32.toNatClampNeg a1)))), some (ax_i (v_J6_bitCount_0f7a4 (a0 &&& (σ.1 31 (Int32.toNatClampNeg a1))))), some (ax_i ((a3 / ((v_J6_bitCount_0f7a4 (a0 &&& (σ.1 31 (Int32.toNatClampNeg a1)))) + (1 : Int32))) + (σ.1 5 13))), none]) dX8_arrive_101 rfl (by decide) rfl rfl ?_
        refine ax_aload_n (q := 104) (i := 0) dX8_arrive_103 rfl rfl rfl ?_
        refine ax_get (q := 107) (k := 6) (j := 1) (v := ax_r 4) dX8_arrive_104 rfl shC_6 rfl rfl rfl (by decide) fl_X8_28 ?_
        refine ax_get (q := 110) (k := 4) (j := 5) (v := ax_i (σ.1 4 5)) dX8_arrive_107 rfl shC_4 rfl rfl rfl (by decide) fl_X8_78 ?_
        refine ax_iconst (q := 111) dX8_arrive_110 rfl ki_m1 ?_
        refine ax_icmp_eq (tgt := 168) (q := 114) dX8_arrive_111 (by decide) rfl (fun c4 => ?_) (fun c4 => ?_)
        · refine ax_iload (q := 170) dX8_arrive_168 rfl rfl ?_
          refine ax_iconst (q := 171) dX8_arrive_170 rfl ki_0 ?_
          refine ax_iload (q := 173) dX8_arrive_171 rfl rfl ?_
          refine ax_iload (q := 175) dX8_arrive_173 rfl rfl ?_
          refine ax_mmin (q := 178) dX8_arrive_175 rfl mk_X8_99 (Nat.le_of_ble_eq_true rfl) ?_
          refine ax_mmax (q := 181) dX8_arrive_178 rfl mk_X8_104 (Nat.le_of_ble_eq_true rfl) ?_
          refine ax_isub (q := 182) dX8_arrive_181 rfl ?_
          refine ax_iload (q := 184) dX8_arrive_182 rfl rfl ?_
          refine ax_idiv (q := 185) dX8_arrive_184 rfl (h3 c1 c2 c3 c4) ?_
          refine ax_istore (q := 187) (lv2 := [some (ax_r 6), some (ax_i a0), some (ax_i a1), some (ax_i a2), some (ax_i a3), some (ax_i (a0 &&& (σ.1 31 (Int32.toNatClampNeg a1)))), some (ax_i (v_J6_bitCount_0f7a4 (a0 &&& (σ.1 31 (Int32.toNatClampNeg a1))))), some (ax_i ((a3 / ((v_J6_bitCount_0f7a4 (a0 &&& (σ.1 31 (Int32.toNatClampNeg a1)))) + (1 : Int32))) + (σ.1 5 13))), some (ax_i ((a3 - (if (0 : Int32) < (if ((a3 / ((v_J6_bitCount_0f7a4 (a0 &&& (σ.1 31 (Int32.toNatClampNeg a1)))) + (1 : Int32))) + (σ.1 5 13)) < a3 then ((a3 / ((v_J6_bitCount_0f7a4 (a0 &&& (σ.1 31 (Int32.toNatClampNeg a1)))) + (1 : Int32))) + (σ.1 5 13)) else a3) then (if ((a3 / ((v_J6_bitCount_0f7a4 (a0 &&& (σ.1 31 (Int32.toNatClampNeg a1)))) + (1 : Int32))) + (σ.1 5 13)) < a3 then ((a3 / ((v_J6_bitCount_0f7a4 (a0 &&& (σ.1 31 (Int32.toNatClampNeg a1)))) + (1 : Int32))) + (σ.1 5 13)) else a3) else (0 : Int32))) / (v_J6_bitCount_0f7a4 (a0 &&& (σ.1 31 (Int32.toNatClampNeg a1))))))]) dX8_arrive_185 rfl (by decide) rfl rfl ?_
          refine ax_aload_n (q := 188) (i := 0) dX8_arrive_187 rfl rfl rfl ?_
          refine ax_get (q := 191) (k := 6) (j := 2) (v := ax_r 32) dX8_arrive_188 rfl shC_6 rfl rfl rfl (by decide) fl_X8_9 ?_
          refine ax_iload_n (q := 192) (i := 2) dX8_arrive_191 rfl rfl rfl ?_
          refine ax_dup2_11 (q := 193) dX8_arrive_192 rfl ?_
          refine ax_iald (q := 194) (a := (Int32.toNatClampNeg a1)) (v := (σ.1 32 (Int32.toNatClampNeg a1))) dX8_arrive_193 rfl shC_32 (h4 c1 c2 c3 c4) rfl rfl ?_
          refine ax_iload (q := 196) dX8_arrive_194 rfl rfl ?_
          refine ax_iload (q := 198) dX8_arrive_196 rfl rfl ?_
          refine ax_iload (q := 200) dX8_arrive_198 rfl rfl ?_
          refine ax_imul (q := 201) dX8_arrive_200 rfl ?_
          refine ax_isub (q := 202) dX8_arrive_201 rfl ?_
          refine ax_iadd (q := 203) dX8_arrive_202 rfl ?_
          refine ax_iast (q := 204) (a := (Int32.toNatClampNeg a1)) dX8_arrive_203 rfl shC_32 (h4 c1 c2 c3 c4) rfl ?_
          refine ax_aload_n (q := 205) (i := 0) dX8_arrive_204 rfl rfl rfl ?_
          refine ax_iload_n (q := 206) (i := 2) dX8_arrive_205 rfl rfl rfl ?_
          refine ax_iload (q := 208) dX8_arrive_206 rfl rfl ?_
          refine ax_iload (q := 210) dX8_arrive_208 rfl rfl ?_
          refine ax_fg (lv2 := [none, none, none, none, none, none, none, none, none]) trivial ?_
          exact ax_callVcv (q := 213) (As := [ax_i a1, ax_i (a0 &&& (σ.1 31 (Int32.toNatClampNeg a1))), ax_i ((a3 - (if (0 : Int32) < (if ((a3 / ((v_J6_bitCount_0f7a4 (a0 &&& (σ.1 31 (Int32.toNatClampNeg a1)))) + (1 : Int32))) + (σ.1 5 13)) < a3 then ((a3 / ((v_J6_bitCount_0f7a4 (a0 &&& (σ.1 31 (Int32.toNatClampNeg a1)))) + (1 : Int32))) + (σ.1 5 13)) else a3) then (if ((a3 / ((v_J6_bitCount_0f7a4 (a0 &&& (σ.1 31 (Int32.toNatClampNeg a1)))) + (1 : Int32))) + (σ.1 5 13)) < a3 then ((a3 / ((v_J6_bitCount_0f7a4 (a0 &&& (σ.1 31 (Int32.toNatClampNeg a1)))) + (1 : Int32))) + (σ.1 5 13)) else a3) else (0 : Int32))) / (v_J6_bitCount_0f7a4 (a0 &&& (σ.1 31 (Int32.toNatClampNeg a1)))))]) (st := []) dX8_arrive_210 rfl lk_X8_107 shC_6 rfl rfl rfl rfl (Nat.le_of_ble_eq_true rfl) (k5 c1 c2 c3 c4)
        · refine ax_aload_n (q := 115) (i := 0) dX8_arrive_114 rfl rfl rfl ?_
          refine ax_get (q := 118) (k := 6) (j := 1) (v := ax_r 4) dX8_arrive_115 rfl shC_6 rfl rfl rfl (by decide) fl_X8_28 ?_
          refine ax_iload (q := 120) dX8_arrive_118 rfl rfl ?_
          refine ax_aload_n (q := 121) (i := 0) dX8_arrive_120 rfl rfl rfl ?_
          refine ax_get (q := 124) (k := 6) (j := 0) (v := ax_r 5) dX8_arrive_121 rfl shC_6 rfl rfl rfl (by decide) fl_X8_24 ?_
          refine ax_get (q := 127) (k := 5) (j := 1) (v := ax_r 24) dX8_arrive_124 rfl shC_5 rfl rfl rfl (by decide) fl_X8_83 ?_
          refine ax_iload_n (q := 128) (i := 2) dX8_arrive_127 rfl rfl rfl ?_
          refine ax_iald (q := 129) (a := (Int32.toNatClampNeg a1)) (v := (σ.1 24 (Int32.toNatClampNeg a1))) dX8_arrive_128 rfl shC_24 (h6 c1 c2 c3 c4) rfl rfl ?_
          refine ax_aload_n (q := 130) (i := 0) dX8_arrive_129 rfl rfl rfl ?_
          refine ax_get (q := 133) (k := 6) (j := 0) (v := ax_r 5) dX8_arrive_130 rfl shC_6 rfl rfl rfl (by decide) fl_X8_24 ?_
          refine ax_get (q := 136) (k := 5) (j := 2) (v := ax_r 25) dX8_arrive_133 rfl shC_5 rfl rfl rfl (by decide) fl_X8_86 ?_
          refine ax_iload_n (q := 137) (i := 2) dX8_arrive_136 rfl rfl rfl ?_
          refine ax_iald (q := 138) (a := (Int32.toNatClampNeg a1)) (v := (σ.1 25 (Int32.toNatClampNeg a1))) dX8_arrive_137 rfl shC_25 (h6 c1 c2 c3 c4) rfl rfl ?_
          refine ax_aload_n (q := 139) (i := 0) dX8_arrive_138 rfl rfl rfl ?_
          refine ax_get (q := 142) (k := 6) (j := 0) (v := ax_r 5) dX8_arrive_139 rfl shC_6 rfl rfl rfl (by decide) fl_X8_24 ?_
          refine ax_get (q := 145) (k := 5) (j := 3) (v := ax_r 26) dX8_arrive_142 rfl shC_5 rfl rfl rfl (by decide) fl_X8_89 ?_
          refine ax_iload_n (q := 146) (i := 2) dX8_arrive_145 rfl rfl rfl ?_
          refine ax_iald (q := 147) (a := (Int32.toNatClampNeg a1)) (v := (σ.1 26 (Int32.toNatClampNeg a1))) dX8_arrive_146 rfl shC_26 (h6 c1 c2 c3 c4) rfl rfl ?_
          refine ax_iload (q := 149) dX8_arrive_147 rfl rfl ?_
          refine ax_aload_n (q := 150) (i := 0) dX8_arrive_149 rfl rfl rfl ?_
          refine ax_get (q := 153) (k := 6) (j := 0) (v := ax_r 5) dX8_arrive_150 rfl shC_6 rfl rfl rfl (by decide) fl_X8_24 ?_
          refine ax_get (q := 156) (k := 5) (j := 13) (v := ax_i (σ.1 5 13)) dX8_arrive_153 rfl shC_5 rfl rfl rfl (by decide) fl_X8_75 ?_
          refine ax_callVfv (q := 159) (As := [ax_i a3, ax_i (σ.1 24 (Int32.toNatClampNeg a1)), ax_i (σ.1 25 (Int32.toNatClampNeg a1)), ax_i (σ.1 26 (Int32.toNatClampNeg a1)), ax_i (v_J6_bitCount_0f7a4 (a0 &&& (σ.1 31 (Int32.toNatClampNeg a1)))), ax_i (σ.1 5 13)]) (st := []) (σ2 := (ax_ui (ax_ui (ax_ui (ax_ui (ax_ui (ax_ui (ax_ui σ 6 7 ((σ.1 6 7) ||| ((1 : Int32) <<< (a1 &&& 31)))) 21 0 a3) 21 1 (σ.1 24 (Int32.toNatClampNeg a1))) 21 2 (σ.1 25 (Int32.toNatClampNeg a1))) 21 3 (σ.1 26 (Int32.toNatClampNeg a1))) 21 4 (v_J6_bitCount_0f7a4 (a0 &&& (σ.1 31 (Int32.toNatClampNeg a1))))) 21 5 (σ.1 5 13))) dX8_arrive_156 rfl lk_X8_92 shC_4 rfl rfl rfl rfl (Nat.le_of_ble_eq_true rfl) (f_X7_tell (ax_ui σ 6 7 ((σ.1 6 7) ||| ((1 : Int32) <<< (a1 &&& 31)))) a3 (σ.1 24 (Int32.toNatClampNeg a1)) (σ.1 25 (Int32.toNatClampNeg a1)) (σ.1 26 (Int32.toNatClampNeg a1)) (v_J6_bitCount_0f7a4 (a0 &&& (σ.1 31 (Int32.toNatClampNeg a1)))) (σ.1 5 13) (ax_inl 0 6 (by decide) (by decide)) (ax_inl 1 6 (by decide) (by decide)) (ax_inl 2 6 (by decide) (by decide)) (ax_inl 3 6 (by decide) (by decide)) (ax_inl 4 6 (by decide) (by decide)) (ax_inl 5 6 (by decide) (by decide)) (d := d) (by omega)) ?_
          refine ax_aload_n (q := 160) (i := 0) dX8_arrive_159 rfl rfl rfl ?_
          refine ax_get (q := 163) (k := 6) (j := 1) (v := ax_r 4) dX8_arrive_160 rfl shC_6 rfl rfl rfl (by decide) fl_X8_28 ?_
          refine ax_fg (lv2 := [some (ax_r 6), none, some (ax_i a1), none, some (ax_i a3), some (ax_i (a0 &&& (σ.1 31 (Int32.toNatClampNeg a1)))), some (ax_i (v_J6_bitCount_0f7a4 (a0 &&& (σ.1 31 (Int32.toNatClampNeg a1))))), none, none]) ⟨rfl, rfl, rfl, rfl, rfl, trivial⟩ ?_
          exact ax_callVci (q := 166) (As := []) (st := []) dX8_arrive_163 rfl lk_X8_96 shC_4 rfl rfl rfl rfl (Nat.le_of_ble_eq_true rfl) (k7 c1 c2 c3 c4)
      · refine ax_aload_n (q := 75) (i := 0) dX8_arrive_74 rfl rfl rfl ?_
        refine ax_get (q := 78) (k := 6) (j := 2) (v := ax_r 32) dX8_arrive_75 rfl shC_6 rfl rfl rfl (by decide) fl_X8_9 ?_
        refine ax_iload_n (q := 79) (i := 2) dX8_arrive_78 rfl rfl rfl ?_
        refine ax_dup2_11 (q := 80) dX8_arrive_79 rfl ?_
        refine ax_iald (q := 81) (a := (Int32.toNatClampNeg a1)) (v := (σ.1 32 (Int32.toNatClampNeg a1))) dX8_arrive_80 rfl shC_32 (h8 c1 c2 c3) rfl rfl ?_
        refine ax_iload (q := 83) dX8_arrive_81 rfl rfl ?_
        refine ax_iadd (q := 84) dX8_arrive_83 rfl ?_
        refine ax_iast (q := 85) (a := (Int32.toNatClampNeg a1)) dX8_arrive_84 rfl shC_32 (h8 c1 c2 c3) rfl ?_
        exact ax_vret dX8_arrive_85 rfl (k9 c1 c2 c3)
    · refine ax_iload (q := 54) dX8_arrive_52 rfl rfl ?_
      refine ax_iconst (q := 55) dX8_arrive_54 rfl ki_1 ?_
      refine ax_iload_n (q := 56) (i := 3) dX8_arrive_55 rfl rfl rfl ?_
      refine ax_ishl (q := 57) dX8_arrive_56 rfl ?_
      refine ax_iconst (q := 58) dX8_arrive_57 rfl ki_m1 ?_
      refine ax_ixor (q := 59) dX8_arrive_58 rfl ?_
      refine ax_iand (q := 60) dX8_arrive_59 rfl ?_
      refine ax_istore (q := 62) (lv2 := [some (ax_r 6), some (ax_i a0), some (ax_i a1), some (ax_i a2), some (ax_i a3), some (ax_i ((a0 &&& (σ.1 31 (Int32.toNatClampNeg a1))) &&& (((1 : Int32) <<< (a2 &&& 31)) ^^^ (-1 : Int32)))), none, none, none]) dX8_arrive_60 rfl (by decide) rfl rfl ?_
      refine ax_iload (q := 64) dX8_arrive_62 rfl rfl ?_
      refine ax_callSfi (q := 67) (As := [ax_i ((a0 &&& (σ.1 31 (Int32.toNatClampNeg a1))) &&& (((1 : Int32) <<< (a2 &&& 31)) ^^^ (-1 : Int32)))]) (st := []) (x := (v_J6_bitCount_0f7a4 ((a0 &&& (σ.1 31 (Int32.toNatClampNeg a1))) &&& (((1 : Int32) <<< (a2 &&& 31)) ^^^ (-1 : Int32))))) (σ2 := (ax_ui σ 6 7 ((σ.1 6 7) ||| ((1 : Int32) <<< (a1 &&& 31))))) dX8_arrive_64 rfl lk_X8_69 rfl rfl (Nat.le_of_ble_eq_true rfl) (f_J6_bitCount_0f7a4 (sh := shC) (ax_ui σ 6 7 ((σ.1 6 7) ||| ((1 : Int32) <<< (a1 &&& 31)))) ((a0 &&& (σ.1 31 (Int32.toNatClampNeg a1))) &&& (((1 : Int32) <<< (a2 &&& 31)) ^^^ (-1 : Int32)))  (d := d) (by omega)) ?_
      refine ax_istore (q := 69) (lv2 := [some (ax_r 6), some (ax_i a0), some (ax_i a1), some (ax_i a2), some (ax_i a3), some (ax_i ((a0 &&& (σ.1 31 (Int32.toNatClampNeg a1))) &&& (((1 : Int32) <<< (a2 &&& 31)) ^^^ (-1 : Int32)))), some (ax_i (v_J6_bitCount_0f7a4 ((a0 &&& (σ.1 31 (Int32.toNatClampNeg a1))) &&& (((1 : Int32) <<< (a2 &&& 31)) ^^^ (-1 : Int32))))), none, none]) dX8_arrive_67 rfl (by decide) rfl rfl ?_
      refine ax_iload (q := 71) dX8_arrive_69 rfl rfl ?_
      refine ax_if_ne (tgt := 86) (q := 74) dX8_arrive_71 (by decide) rfl (fun c5 => ?_) (fun c5 => ?_)
      · refine ax_iload (q := 88) dX8_arrive_86 rfl rfl ?_
        refine ax_iload (q := 90) dX8_arrive_88 rfl rfl ?_
        refine ax_iconst (q := 91) dX8_arrive_90 rfl ki_1 ?_
        refine ax_iadd (q := 92) dX8_arrive_91 rfl ?_
        refine ax_idiv (q := 93) dX8_arrive_92 rfl (h10 c1 c2 c5) ?_
        refine ax_aload_n (q := 94) (i := 0) dX8_arrive_93 rfl rfl rfl ?_
        refine ax_get (q := 97) (k := 6) (j := 0) (v := ax_r 5) dX8_arrive_94 rfl shC_6 rfl rfl rfl (by decide) fl_X8_24 ?_
        refine ax_get (q := 100) (k := 5) (j := 13) (v := ax_i (σ.1 5 13)) dX8_arrive_97 rfl shC_5 rfl rfl rfl (by decide) fl_X8_75 ?_
        refine ax_iadd (q := 101) dX8_arrive_100 rfl ?_
        refine ax_istore (q := 103) (lv2 := [some (ax_r 6), some (ax_i a0), some (ax_i a1), some (ax_i a2), some (ax_i a3), some (ax_i ((a0 &&& (σ.1 31 (Int32.toNatClampNeg a1))) &&& (((1 : Int32) <<< (a2 &&& 31)) ^^^ (-1 : Int32)))), some (ax_i (v_J6_bitCount_0f7a4 ((a0 &&& (σ.1 31 (Int32.toNatClampNeg a1))) &&& (((1 : Int32) <<< (a2 &&& 31)) ^^^ (-1 : Int32))))), some (ax_i ((a3 / ((v_J6_bitCount_0f7a4 ((a0 &&& (σ.1 31 (Int32.toNatClampNeg a1))) &&& (((1 : Int32) <<< (a2 &&& 31)) ^^^ (-1 : Int32)))) + (1 : Int32))) + (σ.1 5 13))), none]) dX8_arrive_101 rfl (by decide) rfl rfl ?_
        refine ax_aload_n (q := 104) (i := 0) dX8_arrive_103 rfl rfl rfl ?_
        refine ax_get (q := 107) (k := 6) (j := 1) (v := ax_r 4) dX8_arrive_104 rfl shC_6 rfl rfl rfl (by decide) fl_X8_28 ?_
        refine ax_get (q := 110) (k := 4) (j := 5) (v := ax_i (σ.1 4 5)) dX8_arrive_107 rfl shC_4 rfl rfl rfl (by decide) fl_X8_78 ?_
        refine ax_iconst (q := 111) dX8_arrive_110 rfl ki_m1 ?_
        refine ax_icmp_eq (tgt := 168) (q := 114) dX8_arrive_111 (by decide) rfl (fun c6 => ?_) (fun c6 => ?_)
        · refine ax_iload (q := 170) dX8_arrive_168 rfl rfl ?_
          refine ax_iconst (q := 171) dX8_arrive_170 rfl ki_0 ?_
          refine ax_iload (q := 173) dX8_arrive_171 rfl rfl ?_
          refine ax_iload (q := 175) dX8_arrive_173 rfl rfl ?_
          refine ax_mmin (q := 178) dX8_arrive_175 rfl mk_X8_99 (Nat.le_of_ble_eq_true rfl) ?_
          refine ax_mmax (q := 181) dX8_arrive_178 rfl mk_X8_104 (Nat.le_of_ble_eq_true rfl) ?_
          refine ax_isub (q := 182) dX8_arrive_181 rfl ?_
          refine ax_iload (q := 184) dX8_arrive_182 rfl rfl ?_
          refine ax_idiv (q := 185) dX8_arrive_184 rfl (h11 c1 c2 c5 c6) ?_
          refine ax_istore (q := 187) (lv2 := [some (ax_r 6), some (ax_i a0), some (ax_i a1), some (ax_i a2), some (ax_i a3), some (ax_i ((a0 &&& (σ.1 31 (Int32.toNatClampNeg a1))) &&& (((1 : Int32) <<< (a2 &&& 31)) ^^^ (-1 : Int32)))), some (ax_i (v_J6_bitCount_0f7a4 ((a0 &&& (σ.1 31 (Int32.toNatClampNeg a1))) &&& (((1 : Int32) <<< (a2 &&& 31)) ^^^ (-1 : Int32))))), some (ax_i ((a3 / ((v_J6_bitCount_0f7a4 ((a0 &&& (σ.1 31 (Int32.toNatClampNeg a1))) &&& (((1 : Int32) <<< (a2 &&& 31)) ^^^ (-1 : Int32)))) + (1 : Int32))) + (σ.1 5 13))), some (ax_i ((a3 - (if (0 : Int32) < (if ((a3 / ((v_J6_bitCount_0f7a4 ((a0 &&& (σ.1 31 (Int32.toNatClampNeg a1))) &&& (((1 : Int32) <<< (a2 &&& 31)) ^^^ (-1 : Int32)))) + (1 : Int32))) + (σ.1 5 13)) < a3 then ((a3 / ((v_J6_bitCount_0f7a4 ((a0 &&& (σ.1 31 (Int32.toNatClampNeg a1))) &&& (((1 : Int32) <<< (a2 &&& 31)) ^^^ (-1 : Int32)))) + (1 : Int32))) + (σ.1 5 13)) else a3) then (if ((a3 / ((v_J6_bitCount_0f7a4 ((a0 &&& (σ.1 31 (Int32.toNatClampNeg a1))) &&& (((1 : Int32) <<< (a2 &&& 31)) ^^^ (-1 : Int32)))) + (1 : Int32))) + (σ.1 5 13)) < a3 then ((a3 / ((v_J6_bitCount_0f7a4 ((a0 &&& (σ.1 31 (Int32.toNatClampNeg a1))) &&& (((1 : Int32) <<< (a2 &&& 31)) ^^^ (-1 : Int32)))) + (1 : Int32))) + (σ.1 5 13)) else a3) else (0 : Int32))) / (v_J6_bitCount_0f7a4 ((a0 &&& (σ.1 31 (Int32.toNatClampNeg a1))) &&& (((1 : Int32) <<< (a2 &&& 31)) ^^^ (-1 : Int32))))))]) dX8_arrive_185 rfl (by decide) rfl rfl ?_
          refine ax_aload_n (q := 188) (i := 0) dX8_arrive_187 rfl rfl rfl ?_
          refine ax_get (q := 191) (k := 6) (j := 2) (v := ax_r 32) dX8_arrive_188 rfl shC_6 rfl rfl rfl (by decide) fl_X8_9 ?_
          refine ax_iload_n (q := 192) (i := 2) dX8_arrive_191 rfl rfl rfl ?_
          refine ax_dup2_11 (q := 193) dX8_arrive_192 rfl ?_
          refine ax_iald (q := 194) (a := (Int32.toNatClampNeg a1)) (v := (σ.1 32 (Int32.toNatClampNeg a1))) dX8_arrive_193 rfl shC_32 (h12 c1 c2 c5 c6) rfl rfl ?_
          refine ax_iload (q := 196) dX8_arrive_194 rfl rfl ?_
          refine ax_iload (q := 198) dX8_arrive_196 rfl rfl ?_
          refine ax_iload (q := 200) dX8_arrive_198 rfl rfl ?_
          refine ax_imul (q := 201) dX8_arrive_200 rfl ?_
          refine ax_isub (q := 202) dX8_arrive_201 rfl ?_
          refine ax_iadd (q := 203) dX8_arrive_202 rfl ?_
          refine ax_iast (q := 204) (a := (Int32.toNatClampNeg a1)) dX8_arrive_203 rfl shC_32 (h12 c1 c2 c5 c6) rfl ?_
          refine ax_aload_n (q := 205) (i := 0) dX8_arrive_204 rfl rfl rfl ?_
          refine ax_iload_n (q := 206) (i := 2) dX8_arrive_205 rfl rfl rfl ?_
          refine ax_iload (q := 208) dX8_arrive_206 rfl rfl ?_
          refine ax_iload (q := 210) dX8_arrive_208 rfl rfl ?_
          refine ax_fg (lv2 := [none, none, none, none, none, none, none, none, none]) trivial ?_
          exact ax_callVcv (q := 213) (As := [ax_i a1, ax_i ((a0 &&& (σ.1 31 (Int32.toNatClampNeg a1))) &&& (((1 : Int32) <<< (a2 &&& 31)) ^^^ (-1 : Int32))), ax_i ((a3 - (if (0 : Int32) < (if ((a3 / ((v_J6_bitCount_0f7a4 ((a0 &&& (σ.1 31 (Int32.toNatClampNeg a1))) &&& (((1 : Int32) <<< (a2 &&& 31)) ^^^ (-1 : Int32)))) + (1 : Int32))) + (σ.1 5 13)) < a3 then ((a3 / ((v_J6_bitCount_0f7a4 ((a0 &&& (σ.1 31 (Int32.toNatClampNeg a1))) &&& (((1 : Int32) <<< (a2 &&& 31)) ^^^ (-1 : Int32)))) + (1 : Int32))) + (σ.1 5 13)) else a3) then (if ((a3 / ((v_J6_bitCount_0f7a4 ((a0 &&& (σ.1 31 (Int32.toNatClampNeg a1))) &&& (((1 : Int32) <<< (a2 &&& 31)) ^^^ (-1 : Int32)))) + (1 : Int32))) + (σ.1 5 13)) < a3 then ((a3 / ((v_J6_bitCount_0f7a4 ((a0 &&& (σ.1 31 (Int32.toNatClampNeg a1))) &&& (((1 : Int32) <<< (a2 &&& 31)) ^^^ (-1 : Int32)))) + (1 : Int32))) + (σ.1 5 13)) else a3) else (0 : Int32))) / (v_J6_bitCount_0f7a4 ((a0 &&& (σ.1 31 (Int32.toNatClampNeg a1))) &&& (((1 : Int32) <<< (a2 &&& 31)) ^^^ (-1 : Int32)))))]) (st := []) dX8_arrive_210 rfl lk_X8_107 shC_6 rfl rfl rfl rfl (Nat.le_of_ble_eq_true rfl) (k13 c1 c2 c5 c6)
        · refine ax_aload_n (q := 115) (i := 0) dX8_arrive_114 rfl rfl rfl ?_
          refine ax_get (q := 118) (k := 6) (j := 1) (v := ax_r 4) dX8_arrive_115 rfl shC_6 rfl rfl rfl (by decide) fl_X8_28 ?_
          refine ax_iload (q := 120) dX8_arrive_118 rfl rfl ?_
          refine ax_aload_n (q := 121) (i := 0) dX8_arrive_120 rfl rfl rfl ?_
          refine ax_get (q := 124) (k := 6) (j := 0) (v := ax_r 5) dX8_arrive_121 rfl shC_6 rfl rfl rfl (by decide) fl_X8_24 ?_
          refine ax_get (q := 127) (k := 5) (j := 1) (v := ax_r 24) dX8_arrive_124 rfl shC_5 rfl rfl rfl (by decide) fl_X8_83 ?_
          refine ax_iload_n (q := 128) (i := 2) dX8_arrive_127 rfl rfl rfl ?_
          refine ax_iald (q := 129) (a := (Int32.toNatClampNeg a1)) (v := (σ.1 24 (Int32.toNatClampNeg a1))) dX8_arrive_128 rfl shC_24 (h14 c1 c2 c5 c6) rfl rfl ?_
          refine ax_aload_n (q := 130) (i := 0) dX8_arrive_129 rfl rfl rfl ?_
          refine ax_get (q := 133) (k := 6) (j := 0) (v := ax_r 5) dX8_arrive_130 rfl shC_6 rfl rfl rfl (by decide) fl_X8_24 ?_
          refine ax_get (q := 136) (k := 5) (j := 2) (v := ax_r 25) dX8_arrive_133 rfl shC_5 rfl rfl rfl (by decide) fl_X8_86 ?_
          refine ax_iload_n (q := 137) (i := 2) dX8_arrive_136 rfl rfl rfl ?_
          refine ax_iald (q := 138) (a := (Int32.toNatClampNeg a1)) (v := (σ.1 25 (Int32.toNatClampNeg a1))) dX8_arrive_137 rfl shC_25 (h14 c1 c2 c5 c6) rfl rfl ?_
          refine ax_aload_n (q := 139) (i := 0) dX8_arrive_138 rfl rfl rfl ?_
          refine ax_get (q := 142) (k := 6) (j := 0) (v := ax_r 5) dX8_arrive_139 rfl shC_6 rfl rfl rfl (by decide) fl_X8_24 ?_
          refine ax_get (q := 145) (k := 5) (j := 3) (v := ax_r 26) dX8_arrive_142 rfl shC_5 rfl rfl rfl (by decide) fl_X8_89 ?_
          refine ax_iload_n (q := 146) (i := 2) dX8_arrive_145 rfl rfl rfl ?_
          refine ax_iald (q := 147) (a := (Int32.toNatClampNeg a1)) (v := (σ.1 26 (Int32.toNatClampNeg a1))) dX8_arrive_146 rfl shC_26 (h14 c1 c2 c5 c6) rfl rfl ?_
          refine ax_iload (q := 149) dX8_arrive_147 rfl rfl ?_
          refine ax_aload_n (q := 150) (i := 0) dX8_arrive_149 rfl rfl rfl ?_
          refine ax_get (q := 153) (k := 6) (j := 0) (v := ax_r 5) dX8_arrive_150 rfl shC_6 rfl rfl rfl (by decide) fl_X8_24 ?_
          refine ax_get (q := 156) (k := 5) (j := 13) (v := ax_i (σ.1 5 13)) dX8_arrive_153 rfl shC_5 rfl rfl rfl (by decide) fl_X8_75 ?_
          refine ax_callVfv (q := 159) (As := [ax_i a3, ax_i (σ.1 24 (Int32.toNatClampNeg a1)), ax_i (σ.1 25 (Int32.toNatClampNeg a1)), ax_i (σ.1 26 (Int32.toNatClampNeg a1)), ax_i (v_J6_bitCount_0f7a4 ((a0 &&& (σ.1 31 (Int32.toNatClampNeg a1))) &&& (((1 : Int32) <<< (a2 &&& 31)) ^^^ (-1 : Int32)))), ax_i (σ.1 5 13)]) (st := []) (σ2 := (ax_ui (ax_ui (ax_ui (ax_ui (ax_ui (ax_ui (ax_ui σ 6 7 ((σ.1 6 7) ||| ((1 : Int32) <<< (a1 &&& 31)))) 21 0 a3) 21 1 (σ.1 24 (Int32.toNatClampNeg a1))) 21 2 (σ.1 25 (Int32.toNatClampNeg a1))) 21 3 (σ.1 26 (Int32.toNatClampNeg a1))) 21 4 (v_J6_bitCount_0f7a4 ((a0 &&& (σ.1 31 (Int32.toNatClampNeg a1))) &&& (((1 : Int32) <<< (a2 &&& 31)) ^^^ (-1 : Int32))))) 21 5 (σ.1 5 13))) dX8_arrive_156 rfl lk_X8_92 shC_4 rfl rfl rfl rfl (Nat.le_of_ble_eq_true rfl) (f_X7_tell (ax_ui σ 6 7 ((σ.1 6 7) ||| ((1 : Int32) <<< (a1 &&& 31)))) a3 (σ.1 24 (Int32.toNatClampNeg a1)) (σ.1 25 (Int32.toNatClampNeg a1)) (σ.1 26 (Int32.toNatClampNeg a1)) (v_J6_bitCount_0f7a4 ((a0 &&& (σ.1 31 (Int32.toNatClampNeg a1))) &&& (((1 : Int32) <<< (a2 &&& 31)) ^^^ (-1 : Int32)))) (σ.1 5 13) (ax_inl 0 6 (by decide) (by decide)) (ax_inl 1 6 (by decide) (by decide)) (ax_inl 2 6 (by decide) (by decide)) (ax_inl 3 6 (by decide) (by decide)) (ax_inl 4 6 (by decide) (by decide)) (ax_inl 5 6 (by decide) (by decide)) (d := d) (by omega)) ?_
          refine ax_aload_n (q := 160) (i := 0) dX8_arrive_159 rfl rfl rfl ?_
          refine ax_get (q := 163) (k := 6) (j := 1) (v := ax_r 4) dX8_arrive_160 rfl shC_6 rfl rfl rfl (by decide) fl_X8_28 ?_
          refine ax_fg (lv2 := [some (ax_r 6), none, some (ax_i a1), none, some (ax_i a3), some (ax_i ((a0 &&& (σ.1 31 (Int32.toNatClampNeg a1))) &&& (((1 : Int32) <<< (a2 &&& 31)) ^^^ (-1 : Int32)))), some (ax_i (v_J6_bitCount_0f7a4 ((a0 &&& (σ.1 31 (Int32.toNatClampNeg a1))) &&& (((1 : Int32) <<< (a2 &&& 31)) ^^^ (-1 : Int32))))), none, none]) ⟨rfl, rfl, rfl, rfl, rfl, trivial⟩ ?_
          exact ax_callVci (q := 166) (As := []) (st := []) dX8_arrive_163 rfl lk_X8_96 shC_4 rfl rfl rfl rfl (Nat.le_of_ble_eq_true rfl) (k15 c1 c2 c5 c6)
      · refine ax_aload_n (q := 75) (i := 0) dX8_arrive_74 rfl rfl rfl ?_
        refine ax_get (q := 78) (k := 6) (j := 2) (v := ax_r 32) dX8_arrive_75 rfl shC_6 rfl rfl rfl (by decide) fl_X8_9 ?_
        refine ax_iload_n (q := 79) (i := 2) dX8_arrive_78 rfl rfl rfl ?_
        refine ax_dup2_11 (q := 80) dX8_arrive_79 rfl ?_
        refine ax_iald (q := 81) (a := (Int32.toNatClampNeg a1)) (v := (σ.1 32 (Int32.toNatClampNeg a1))) dX8_arrive_80 rfl shC_32 (h16 c1 c2 c5) rfl rfl ?_
        refine ax_iload (q := 83) dX8_arrive_81 rfl rfl ?_
        refine ax_iadd (q := 84) dX8_arrive_83 rfl ?_
        refine ax_iast (q := 85) (a := (Int32.toNatClampNeg a1)) dX8_arrive_84 rfl shC_32 (h16 c1 c2 c5) rfl ?_
        exact ax_vret dX8_arrive_85 rfl (k17 c1 c2 c5)
  · refine ax_aload_n (q := 13) (i := 0) dX8_arrive_12 rfl rfl rfl ?_
    refine ax_get (q := 16) (k := 6) (j := 2) (v := ax_r 32) dX8_arrive_13 rfl shC_6 rfl rfl rfl (by decide) fl_X8_9 ?_
    refine ax_iload_n (q := 17) (i := 2) dX8_arrive_16 rfl rfl rfl ?_
    refine ax_dup2_11 (q := 18) dX8_arrive_17 rfl ?_
    refine ax_iald (q := 19) (a := (Int32.toNatClampNeg a1)) (v := (σ.1 32 (Int32.toNatClampNeg a1))) dX8_arrive_18 rfl shC_32 (h18 c1) rfl rfl ?_
    refine ax_iload (q := 21) dX8_arrive_19 rfl rfl ?_
    refine ax_iadd (q := 22) dX8_arrive_21 rfl ?_
    refine ax_iast (q := 23) (a := (Int32.toNatClampNeg a1)) dX8_arrive_22 rfl shC_32 (h18 c1) rfl ?_
    exact ax_vret dX8_arrive_23 rfl (k19 c1)
set_option maxRecDepth 20000 in
theorem s_X8_arrive_166 {d : Nat} (hd : 0 ≤ d) {Q : Option ax_V → ax_S → Prop} (σ : ax_S) (x2 : Int32) (x4 : Int32) (x5 : Int32) (x6 : Int32) (rr : Int32) (h1 : ¬ x6 = 0) (h2 : vp_in x2 8) (k3 : ax_Ct shC d mX8_pass [ax_r 6, ax_i x2, ax_i x5, ax_i ((x4 - (if (0 : Int32) < (if rr < x4 then rr else x4) then (if rr < x4 then rr else x4) else (0 : Int32))) / x6)] (fun r u => r = none ∧ ax_W shC (d + 1) mX8_arrive Q 213 [none, none, none, none, none, none, none, none, none] [] u) (ax_ui σ 32 (Int32.toNatClampNeg x2) ((σ.1 32 (Int32.toNatClampNeg x2)) + (x4 - (((x4 - (if (0 : Int32) < (if rr < x4 then rr else x4) then (if rr < x4 then rr else x4) else (0 : Int32))) / x6) * x6))))) : ax_W shC (d + 1) mX8_arrive Q 166 [some (ax_r 6), none, some (ax_i x2), none, some (ax_i x4), some (ax_i x5), some (ax_i x6), none, none] [ax_i rr] σ := by
  refine ax_istore (q := 168) (lv2 := [some (ax_r 6), none, some (ax_i x2), none, some (ax_i x4), some (ax_i x5), some (ax_i x6), some (ax_i rr), none]) dX8_arrive_166 rfl (by decide) rfl rfl ?_
  refine ax_iload (q := 170) dX8_arrive_168 rfl rfl ?_
  refine ax_iconst (q := 171) dX8_arrive_170 rfl ki_0 ?_
  refine ax_iload (q := 173) dX8_arrive_171 rfl rfl ?_
  refine ax_iload (q := 175) dX8_arrive_173 rfl rfl ?_
  refine ax_mmin (q := 178) dX8_arrive_175 rfl mk_X8_99 (Nat.le_of_ble_eq_true rfl) ?_
  refine ax_mmax (q := 181) dX8_arrive_178 rfl mk_X8_104 (Nat.le_of_ble_eq_true rfl) ?_
  refine ax_isub (q := 182) dX8_arrive_181 rfl ?_
  refine ax_iload (q := 184) dX8_arrive_182 rfl rfl ?_
  refine ax_idiv (q := 185) dX8_arrive_184 rfl h1 ?_
  refine ax_istore (q := 187) (lv2 := [some (ax_r 6), none, some (ax_i x2), none, some (ax_i x4), some (ax_i x5), some (ax_i x6), some (ax_i rr), some (ax_i ((x4 - (if (0 : Int32) < (if rr < x4 then rr else x4) then (if rr < x4 then rr else x4) else (0 : Int32))) / x6))]) dX8_arrive_185 rfl (by decide) rfl rfl ?_
  refine ax_aload_n (q := 188) (i := 0) dX8_arrive_187 rfl rfl rfl ?_
  refine ax_get (q := 191) (k := 6) (j := 2) (v := ax_r 32) dX8_arrive_188 rfl shC_6 rfl rfl rfl (by decide) fl_X8_9 ?_
  refine ax_iload_n (q := 192) (i := 2) dX8_arrive_191 rfl rfl rfl ?_
  refine ax_dup2_11 (q := 193) dX8_arrive_192 rfl ?_
  refine ax_iald (q := 194) (a := (Int32.toNatClampNeg x2)) (v := (σ.1 32 (Int32.toNatClampNeg x2))) dX8_arrive_193 rfl shC_32 h2 rfl rfl ?_
  refine ax_iload (q := 196) dX8_arrive_194 rfl rfl ?_
  refine ax_iload (q := 198) dX8_arrive_196 rfl rfl ?_
  refine ax_iload (q := 200) dX8_arrive_198 rfl rfl ?_
  refine ax_imul (q := 201) dX8_arrive_200 rfl ?_
  refine ax_isub (q := 202) dX8_arrive_201 rfl ?_
  refine ax_iadd (q := 203) dX8_arrive_202 rfl ?_
  refine ax_iast (q := 204) (a := (Int32.toNatClampNeg x2)) dX8_arrive_203 rfl shC_32 h2 rfl ?_
  refine ax_aload_n (q := 205) (i := 0) dX8_arrive_204 rfl rfl rfl ?_
  refine ax_iload_n (q := 206) (i := 2) dX8_arrive_205 rfl rfl rfl ?_
  refine ax_iload (q := 208) dX8_arrive_206 rfl rfl ?_
  refine ax_iload (q := 210) dX8_arrive_208 rfl rfl ?_
  refine ax_fg (lv2 := [none, none, none, none, none, none, none, none, none]) trivial ?_
  exact ax_callVcv (q := 213) (As := [ax_i x2, ax_i x5, ax_i ((x4 - (if (0 : Int32) < (if rr < x4 then rr else x4) then (if rr < x4 then rr else x4) else (0 : Int32))) / x6)]) (st := []) dX8_arrive_210 rfl lk_X8_107 shC_6 rfl rfl rfl rfl (Nat.le_of_ble_eq_true rfl) k3
set_option maxRecDepth 20000 in
theorem s_X8_arrive_213 {d : Nat} (hd : 0 ≤ d) {Q : Option ax_V → ax_S → Prop} (σ : ax_S)  (k1 : Q none σ) : ax_W shC (d + 1) mX8_arrive Q 213 [none, none, none, none, none, none, none, none, none] [] σ := by
  exact ax_vret dX8_arrive_213 rfl k1
set_option maxRecDepth 20000 in
theorem s_X8_burningBits_0 {d : Nat} (hd : 0 ≤ d) {Q : Option ax_V → ax_S → Prop} (σ : ax_S)  (k1 : ax_W shC (d + 1) mX8_burningBits Q 4 [some (ax_r 6), some (ax_i (0 : Int32)), some (ax_i (0 : Int32))] [] σ) : ax_W shC (d + 1) mX8_burningBits Q 0 [some (ax_r 6), none, none] [] σ := by
  refine ax_iconst (q := 1) dX8_burningBits_0 rfl ki_0 ?_
  refine ax_istore_n (q := 2) (i := 1) (lv2 := [some (ax_r 6), some (ax_i (0 : Int32)), none]) dX8_burningBits_1 rfl rfl (by decide) rfl rfl ?_
  refine ax_iconst (q := 3) dX8_burningBits_2 rfl ki_0 ?_
  refine ax_istore_n (q := 4) (i := 2) (lv2 := [some (ax_r 6), some (ax_i (0 : Int32)), some (ax_i (0 : Int32))]) dX8_burningBits_3 rfl rfl (by decide) rfl rfl ?_
  exact k1
set_option maxRecDepth 20000 in
theorem s_X8_burningBits_4 {d : Nat} (hd : 0 ≤ d) {Q : Option ax_V → ax_S → Prop} (σ : ax_S) (x1 : Int32) (x2 : Int32) (k1 : ((σ.1 5 9) ≤ x2) → Q (some (ax_i x1)) σ) (h2 : (¬ ((σ.1 5 9) ≤ x2)) → vp_in x2 8) (k3 : (¬ ((σ.1 5 9) ≤ x2)) → ((σ.1 32 (Int32.toNatClampNeg x2)) ≤ (σ.1 25 (Int32.toNatClampNeg x2))) → ax_W shC (d + 1) mX8_burningBits Q 4 [some (ax_r 6), some (ax_i x1), some (ax_i (x2 + (1 : Int32)))] [] σ) (k4 : (¬ ((σ.1 5 9) ≤ x2)) → (¬ ((σ.1 32 (Int32.toNatClampNeg x2)) ≤ (σ.1 25 (Int32.toNatClampNeg x2)))) → ax_W shC (d + 1) mX8_burningBits Q 4 [some (ax_r 6), some (ax_i (x1 ||| ((1 : Int32) <<< (x2 &&& 31)))), some (ax_i (x2 + (1 : Int32)))] [] σ) : ax_W shC (d + 1) mX8_burningBits Q 4 [some (ax_r 6), some (ax_i x1), some (ax_i x2)] [] σ := by
  refine ax_iload_n (q := 5) (i := 2) dX8_burningBits_4 rfl rfl rfl ?_
  refine ax_aload_n (q := 6) (i := 0) dX8_burningBits_5 rfl rfl rfl ?_
  refine ax_get (q := 9) (k := 6) (j := 0) (v := ax_r 5) dX8_burningBits_6 rfl shC_6 rfl rfl rfl (by decide) fl_X8_24 ?_
  refine ax_get (q := 12) (k := 5) (j := 9) (v := ax_i (σ.1 5 9)) dX8_burningBits_9 rfl shC_5 rfl rfl rfl (by decide) fl_X8_122 ?_
  refine ax_icmp_ge (tgt := 45) (q := 15) dX8_burningBits_12 (by decide) rfl (fun c1 => ?_) (fun c1 => ?_)
  · refine ax_iload_n (q := 46) (i := 1) dX8_burningBits_45 rfl rfl rfl ?_
    exact ax_iret dX8_burningBits_46 rfl rfl (k1 c1)
  · refine ax_aload_n (q := 16) (i := 0) dX8_burningBits_15 rfl rfl rfl ?_
    refine ax_get (q := 19) (k := 6) (j := 2) (v := ax_r 32) dX8_burningBits_16 rfl shC_6 rfl rfl rfl (by decide) fl_X8_9 ?_
    refine ax_iload_n (q := 20) (i := 2) dX8_burningBits_19 rfl rfl rfl ?_
    refine ax_iald (q := 21) (a := (Int32.toNatClampNeg x2)) (v := (σ.1 32 (Int32.toNatClampNeg x2))) dX8_burningBits_20 rfl shC_32 (h2 c1) rfl rfl ?_
    refine ax_aload_n (q := 22) (i := 0) dX8_burningBits_21 rfl rfl rfl ?_
    refine ax_get (q := 25) (k := 6) (j := 0) (v := ax_r 5) dX8_burningBits_22 rfl shC_6 rfl rfl rfl (by decide) fl_X8_24 ?_
    refine ax_get (q := 28) (k := 5) (j := 2) (v := ax_r 25) dX8_burningBits_25 rfl shC_5 rfl rfl rfl (by decide) fl_X8_86 ?_
    refine ax_iload_n (q := 29) (i := 2) dX8_burningBits_28 rfl rfl rfl ?_
    refine ax_iald (q := 30) (a := (Int32.toNatClampNeg x2)) (v := (σ.1 25 (Int32.toNatClampNeg x2))) dX8_burningBits_29 rfl shC_25 (h2 c1) rfl rfl ?_
    refine ax_icmp_le (tgt := 39) (q := 33) dX8_burningBits_30 (by decide) rfl (fun c2 => ?_) (fun c2 => ?_)
    · refine ax_iincK (q := 42) (lv2 := [some (ax_r 6), some (ax_i x1), some (ax_i (x2 + (1 : Int32)))]) dX8_burningBits_39 rfl rfl ki_1 (by decide) rfl rfl ?_
      refine ax_goto (tgt := 4) dX8_burningBits_42 (by decide) ?_
      exact (k3 c1 c2)
    · refine ax_iload_n (q := 34) (i := 1) dX8_burningBits_33 rfl rfl rfl ?_
      refine ax_iconst (q := 35) dX8_burningBits_34 rfl ki_1 ?_
      refine ax_iload_n (q := 36) (i := 2) dX8_burningBits_35 rfl rfl rfl ?_
      refine ax_ishl (q := 37) dX8_burningBits_36 rfl ?_
      refine ax_ior (q := 38) dX8_burningBits_37 rfl ?_
      refine ax_istore_n (q := 39) (i := 1) (lv2 := [some (ax_r 6), some (ax_i (x1 ||| ((1 : Int32) <<< (x2 &&& 31)))), some (ax_i x2)]) dX8_burningBits_38 rfl rfl (by decide) rfl rfl ?_
      refine ax_iincK (q := 42) (lv2 := [some (ax_r 6), some (ax_i (x1 ||| ((1 : Int32) <<< (x2 &&& 31)))), some (ax_i (x2 + (1 : Int32)))]) dX8_burningBits_39 rfl rfl ki_1 (by decide) rfl rfl ?_
      refine ax_goto (tgt := 4) dX8_burningBits_42 (by decide) ?_
      exact (k4 c1 c2)
set_option maxRecDepth 20000 in
theorem s_X8_fall_0 {d : Nat} (hd : 0 ≤ d) {Q : Option ax_V → ax_S → Prop} (σ : ax_S) (a0 : Int32) (a1 : Int32) (a2 : Int32) (k1 : ax_Ct shC d mJ7_fill_53178 [ax_r 32, ax_i (0 : Int32)] (fun r u => r = none ∧ ax_W shC (d + 1) mX8_fall Q 8 [some (ax_r 6), some (ax_i a0), some (ax_i a1), some (ax_i a2), none] [] u) σ) : ax_W shC (d + 1) mX8_fall Q 0 [some (ax_r 6), some (ax_i a0), some (ax_i a1), some (ax_i a2), none] [] σ := by
  refine ax_aload_n (q := 1) (i := 0) dX8_fall_0 rfl rfl rfl ?_
  refine ax_get (q := 4) (k := 6) (j := 2) (v := ax_r 32) dX8_fall_1 rfl shC_6 rfl rfl rfl (by decide) fl_X8_9 ?_
  refine ax_iconst (q := 5) dX8_fall_4 rfl ki_0 ?_
  exact ax_callScv (q := 8) (As := [ax_r 32, ax_i (0 : Int32)]) (st := []) dX8_fall_5 rfl lk_X8_32 rfl rfl (Nat.le_of_ble_eq_true rfl) k1
set_option maxRecDepth 20000 in
theorem s_X8_fall_8 {d : Nat} (hd : 0 ≤ d) {Q : Option ax_V → ax_S → Prop} (σ : ax_S) (x1 : Int32) (x2 : Int32) (x3 : Int32) (k1 : ax_Ct shC d mX8_send [ax_r 6, ax_i x2, ax_i (-1 : Int32), ax_i x3] (fun r u => r = none ∧ ax_W shC (d + 1) mX8_fall Q 30 [some (ax_r 6), some (ax_i x1), none, none, none] [] u) (ax_ui (ax_ui (ax_ui σ 6 6 (0 : Int32)) 6 7 (0 : Int32)) 6 8 (0 : Int32))) : ax_W shC (d + 1) mX8_fall Q 8 [some (ax_r 6), some (ax_i x1), some (ax_i x2), some (ax_i x3), none] [] σ := by
  refine ax_aload_n (q := 9) (i := 0) dX8_fall_8 rfl rfl rfl ?_
  refine ax_iconst (q := 10) dX8_fall_9 rfl ki_0 ?_
  refine ax_puti (q := 13) (k := 6) (j := 6) dX8_fall_10 rfl shC_6 rfl rfl (by decide) fl_X8_38 rfl rfl rfl rfl ?_
  refine ax_aload_n (q := 14) (i := 0) dX8_fall_13 rfl rfl rfl ?_
  refine ax_iconst (q := 15) dX8_fall_14 rfl ki_0 ?_
  refine ax_puti (q := 18) (k := 6) (j := 7) dX8_fall_15 rfl shC_6 rfl rfl (by decide) fl_X8_42 rfl rfl rfl rfl ?_
  refine ax_aload_n (q := 19) (i := 0) dX8_fall_18 rfl rfl rfl ?_
  refine ax_iconst (q := 20) dX8_fall_19 rfl ki_0 ?_
  refine ax_puti (q := 23) (k := 6) (j := 8) dX8_fall_20 rfl shC_6 rfl rfl (by decide) fl_X8_45 rfl rfl rfl rfl ?_
  refine ax_aload_n (q := 24) (i := 0) dX8_fall_23 rfl rfl rfl ?_
  refine ax_iload_n (q := 25) (i := 2) dX8_fall_24 rfl rfl rfl ?_
  refine ax_iconst (q := 26) dX8_fall_25 rfl ki_m1 ?_
  refine ax_iload_n (q := 27) (i := 3) dX8_fall_26 rfl rfl rfl ?_
  refine ax_fg (lv2 := [some (ax_r 6), some (ax_i x1), none, none, none]) ⟨rfl, rfl, trivial⟩ ?_
  exact ax_callVcv (q := 30) (As := [ax_i x2, ax_i (-1 : Int32), ax_i x3]) (st := []) dX8_fall_27 rfl lk_X8_48 shC_6 rfl rfl rfl rfl (Nat.le_of_ble_eq_true rfl) k1
set_option maxRecDepth 20000 in
theorem s_X8_fall_30 {d : Nat} (hd : 0 ≤ d) {Q : Option ax_V → ax_S → Prop} (σ : ax_S) (x1 : Int32) (k1 : ax_W shC (d + 1) mX8_fall Q 33 [some (ax_r 6), some (ax_i x1), none, none, some (ax_i (0 : Int32))] [] σ) : ax_W shC (d + 1) mX8_fall Q 30 [some (ax_r 6), some (ax_i x1), none, none, none] [] σ := by
  refine ax_iconst (q := 31) dX8_fall_30 rfl ki_0 ?_
  refine ax_istore (q := 33) (lv2 := [some (ax_r 6), some (ax_i x1), none, none, some (ax_i (0 : Int32))]) dX8_fall_31 rfl (by decide) rfl rfl ?_
  exact k1
set_option maxRecDepth 20000 in
theorem s_X8_fall_33 {d : Nat} (hd : 0 ≤ d) {Q : Option ax_V → ax_S → Prop} (σ : ax_S) (x1 : Int32) (x4 : Int32) (k1 : ((σ.1 6 6) ≤ x4) → ax_Ct shC d mX8_burningBits [ax_r 6] (fun r u => ∃ x : Int32, r = some (ax_i x) ∧ ax_W shC (d + 1) mX8_fall Q 78 [none, none, none, none, none] (ax_i x :: []) u) σ) (h2 : (¬ ((σ.1 6 6) ≤ x4)) → vp_in x4 35) (k3 : (¬ ((σ.1 6 6) ≤ x4)) → ax_Ct shC d mX8_arrive [ax_r 6, ax_i x1, ax_i (σ.1 33 (Int32.toNatClampNeg x4)), ax_i (σ.1 34 (Int32.toNatClampNeg x4)), ax_i (σ.1 35 (Int32.toNatClampNeg x4))] (fun r u => r = none ∧ ax_W shC (d + 1) mX8_fall Q 68 [some (ax_r 6), some (ax_i x1), none, none, some (ax_i x4)] [] u) σ) : ax_W shC (d + 1) mX8_fall Q 33 [some (ax_r 6), some (ax_i x1), none, none, some (ax_i x4)] [] σ := by
  refine ax_iload (q := 35) dX8_fall_33 rfl rfl ?_
  refine ax_aload_n (q := 36) (i := 0) dX8_fall_35 rfl rfl rfl ?_
  refine ax_get (q := 39) (k := 6) (j := 6) (v := ax_i (σ.1 6 6)) dX8_fall_36 rfl shC_6 rfl rfl rfl (by decide) fl_X8_38 ?_
  refine ax_icmp_ge (tgt := 74) (q := 42) dX8_fall_39 (by decide) rfl (fun c1 => ?_) (fun c1 => ?_)
  · refine ax_aload_n (q := 75) (i := 0) dX8_fall_74 rfl rfl rfl ?_
    refine ax_fg (lv2 := [none, none, none, none, none]) trivial ?_
    exact ax_callVci (q := 78) (As := []) (st := []) dX8_fall_75 rfl lk_X8_56 shC_6 rfl rfl rfl rfl (Nat.le_of_ble_eq_true rfl) (k1 c1)
  · refine ax_aload_n (q := 43) (i := 0) dX8_fall_42 rfl rfl rfl ?_
    refine ax_iload_n (q := 44) (i := 1) dX8_fall_43 rfl rfl rfl ?_
    refine ax_aload_n (q := 45) (i := 0) dX8_fall_44 rfl rfl rfl ?_
    refine ax_get (q := 48) (k := 6) (j := 3) (v := ax_r 33) dX8_fall_45 rfl shC_6 rfl rfl rfl (by decide) fl_X8_15 ?_
    refine ax_iload (q := 50) dX8_fall_48 rfl rfl ?_
    refine ax_iald (q := 51) (a := (Int32.toNatClampNeg x4)) (v := (σ.1 33 (Int32.toNatClampNeg x4))) dX8_fall_50 rfl shC_33 (h2 c1) rfl rfl ?_
    refine ax_aload_n (q := 52) (i := 0) dX8_fall_51 rfl rfl rfl ?_
    refine ax_get (q := 55) (k := 6) (j := 4) (v := ax_r 34) dX8_fall_52 rfl shC_6 rfl rfl rfl (by decide) fl_X8_18 ?_
    refine ax_iload (q := 57) dX8_fall_55 rfl rfl ?_
    refine ax_iald (q := 58) (a := (Int32.toNatClampNeg x4)) (v := (σ.1 34 (Int32.toNatClampNeg x4))) dX8_fall_57 rfl shC_34 (h2 c1) rfl rfl ?_
    refine ax_aload_n (q := 59) (i := 0) dX8_fall_58 rfl rfl rfl ?_
    refine ax_get (q := 62) (k := 6) (j := 5) (v := ax_r 35) dX8_fall_59 rfl shC_6 rfl rfl rfl (by decide) fl_X8_21 ?_
    refine ax_iload (q := 64) dX8_fall_62 rfl rfl ?_
    refine ax_iald (q := 65) (a := (Int32.toNatClampNeg x4)) (v := (σ.1 35 (Int32.toNatClampNeg x4))) dX8_fall_64 rfl shC_35 (h2 c1) rfl rfl ?_
    exact ax_callVcv (q := 68) (As := [ax_i x1, ax_i (σ.1 33 (Int32.toNatClampNeg x4)), ax_i (σ.1 34 (Int32.toNatClampNeg x4)), ax_i (σ.1 35 (Int32.toNatClampNeg x4))]) (st := []) dX8_fall_65 rfl lk_X8_52 shC_6 rfl rfl rfl rfl (Nat.le_of_ble_eq_true rfl) (k3 c1)
set_option maxRecDepth 20000 in
theorem s_X8_fall_68 {d : Nat} (hd : 0 ≤ d) {Q : Option ax_V → ax_S → Prop} (σ : ax_S) (x1 : Int32) (x4 : Int32) (k1 : ax_W shC (d + 1) mX8_fall Q 33 [some (ax_r 6), some (ax_i x1), none, none, some (ax_i (x4 + (1 : Int32)))] [] σ) : ax_W shC (d + 1) mX8_fall Q 68 [some (ax_r 6), some (ax_i x1), none, none, some (ax_i x4)] [] σ := by
  refine ax_iincK (q := 71) (lv2 := [some (ax_r 6), some (ax_i x1), none, none, some (ax_i (x4 + (1 : Int32)))]) dX8_fall_68 rfl rfl ki_1 (by decide) rfl rfl ?_
  refine ax_goto (tgt := 33) dX8_fall_71 (by decide) ?_
  exact k1
set_option maxRecDepth 20000 in
theorem s_X8_fall_78 {d : Nat} (hd : 0 ≤ d) {Q : Option ax_V → ax_S → Prop} (σ : ax_S) (rr : Int32) (k1 : Q (some (ax_i rr)) σ) : ax_W shC (d + 1) mX8_fall Q 78 [none, none, none, none, none] [ax_i rr] σ := by
  exact ax_iret dX8_fall_78 rfl rfl k1
set_option maxRecDepth 20000 in
theorem s_X9_addBytes_0 {d : Nat} (hd : 0 ≤ d) {Q : Option ax_V → ax_S → Prop} (σ : ax_S) (a0 : Int32) (k1 : ax_W shC (d + 1) mX9_addBytes Q 3 [some (ax_r 1), some (ax_i a0), some (ax_i (24 : Int32)), none] [] σ) : ax_W shC (d + 1) mX9_addBytes Q 0 [some (ax_r 1), some (ax_i a0), none, none] [] σ := by
  refine ax_bipush (q := 2) dX9_addBytes_0 rfl kb_24 ?_
  refine ax_istore_n (q := 3) (i := 2) (lv2 := [some (ax_r 1), some (ax_i a0), some (ax_i (24 : Int32)), none]) dX9_addBytes_2 rfl rfl (by decide) rfl rfl ?_
  exact k1
set_option maxRecDepth 20000 in
theorem s_X9_addBytes_3 {d : Nat} (hd : 0 ≤ d) {Q : Option ax_V → ax_S → Prop} (σ : ax_S) (x1 : Int32) (x2 : Int32) (k1 : (x2 < 0) → Q none σ) (k2 : (¬ (x2 < 0)) → (((x1 >>> (x2 &&& 31)) &&& (255 : Int32)) = 0) → ax_W shC (d + 1) mX9_addBytes Q 3 [some (ax_r 1), some (ax_i x1), some (ax_i (x2 + (-8 : Int32))), none] [] σ) (k3 : (¬ (x2 < 0)) → (¬ (((x1 >>> (x2 &&& 31)) &&& (255 : Int32)) = 0)) → ((Int32.ofNat 240) ≤ (σ.1 1 1)) → ax_W shC (d + 1) mX9_addBytes Q 3 [some (ax_r 1), some (ax_i x1), some (ax_i (x2 + (-8 : Int32))), none] [] σ) (h4 : (¬ (x2 < 0)) → (¬ (((x1 >>> (x2 &&& 31)) &&& (255 : Int32)) = 0)) → (¬ ((Int32.ofNat 240) ≤ (σ.1 1 1))) → vp_in (σ.1 1 1) 240) (k5 : (¬ (x2 < 0)) → (¬ (((x1 >>> (x2 &&& 31)) &&& (255 : Int32)) = 0)) → (¬ ((Int32.ofNat 240) ≤ (σ.1 1 1))) → ax_W shC (d + 1) mX9_addBytes Q 3 [some (ax_r 1), some (ax_i x1), some (ax_i (x2 + (-8 : Int32))), none] [] (ax_ui (ax_ui σ 14 (Int32.toNatClampNeg (σ.1 1 1)) ((x1 >>> (x2 &&& 31)) &&& (255 : Int32))) 1 1 ((σ.1 1 1) + (1 : Int32)))) : ax_W shC (d + 1) mX9_addBytes Q 3 [some (ax_r 1), some (ax_i x1), some (ax_i x2), none] [] σ := by
  refine ax_iload_n (q := 4) (i := 2) dX9_addBytes_3 rfl rfl rfl ?_
  refine ax_if_lt (tgt := 57) (q := 7) dX9_addBytes_4 (by decide) rfl (fun c1 => ?_) (fun c1 => ?_)
  · exact ax_vret dX9_addBytes_57 rfl (k1 c1)
  · refine ax_iload_n (q := 8) (i := 1) dX9_addBytes_7 rfl rfl rfl ?_
    refine ax_iload_n (q := 9) (i := 2) dX9_addBytes_8 rfl rfl rfl ?_
    refine ax_ishr (q := 10) dX9_addBytes_9 rfl ?_
    refine ax_sipush (q := 13) dX9_addBytes_10 rfl ks_255 ?_
    refine ax_iand (q := 14) dX9_addBytes_13 rfl ?_
    refine ax_istore_n (q := 15) (i := 3) (lv2 := [some (ax_r 1), some (ax_i x1), some (ax_i x2), some (ax_i ((x1 >>> (x2 &&& 31)) &&& (255 : Int32)))]) dX9_addBytes_14 rfl rfl (by decide) rfl rfl ?_
    refine ax_iload_n (q := 16) (i := 3) dX9_addBytes_15 rfl rfl rfl ?_
    refine ax_if_eq (tgt := 51) (q := 19) dX9_addBytes_16 (by decide) rfl (fun c2 => ?_) (fun c2 => ?_)
    · refine ax_iincK (q := 54) (lv2 := [some (ax_r 1), some (ax_i x1), some (ax_i (x2 + (-8 : Int32))), some (ax_i ((x1 >>> (x2 &&& 31)) &&& (255 : Int32)))]) dX9_addBytes_51 rfl rfl ki_m8 (by decide) rfl rfl ?_
      refine ax_goto (tgt := 3) dX9_addBytes_54 (by decide) ?_
      refine ax_fg (lv2 := [some (ax_r 1), some (ax_i x1), some (ax_i (x2 + (-8 : Int32))), none]) ⟨rfl, rfl, rfl, trivial⟩ ?_
      exact (k2 c1 c2)
    · refine ax_aload_n (q := 20) (i := 0) dX9_addBytes_19 rfl rfl rfl ?_
      refine ax_get (q := 23) (k := 1) (j := 1) (v := ax_i (σ.1 1 1)) dX9_addBytes_20 rfl shC_1 rfl rfl rfl (by decide) fl_X9_15 ?_
      refine ax_aload_n (q := 24) (i := 0) dX9_addBytes_23 rfl rfl rfl ?_
      refine ax_get (q := 27) (k := 1) (j := 0) (v := ax_r 14) dX9_addBytes_24 rfl shC_1 rfl rfl rfl (by decide) fl_X9_9 ?_
      refine ax_alen (q := 28) dX9_addBytes_27 rfl shC_14 ?_
      refine ax_icmp_ge (tgt := 51) (q := 31) dX9_addBytes_28 (by decide) rfl (fun c3 => ?_) (fun c3 => ?_)
      · refine ax_iincK (q := 54) (lv2 := [some (ax_r 1), some (ax_i x1), some (ax_i (x2 + (-8 : Int32))), some (ax_i ((x1 >>> (x2 &&& 31)) &&& (255 : Int32)))]) dX9_addBytes_51 rfl rfl ki_m8 (by decide) rfl rfl ?_
        refine ax_goto (tgt := 3) dX9_addBytes_54 (by decide) ?_
        refine ax_fg (lv2 := [some (ax_r 1), some (ax_i x1), some (ax_i (x2 + (-8 : Int32))), none]) ⟨rfl, rfl, rfl, trivial⟩ ?_
        exact (k3 c1 c2 c3)
      · refine ax_aload_n (q := 32) (i := 0) dX9_addBytes_31 rfl rfl rfl ?_
        refine ax_get (q := 35) (k := 1) (j := 0) (v := ax_r 14) dX9_addBytes_32 rfl shC_1 rfl rfl rfl (by decide) fl_X9_9 ?_
        refine ax_aload_n (q := 36) (i := 0) dX9_addBytes_35 rfl rfl rfl ?_
        refine ax_get (q := 39) (k := 1) (j := 1) (v := ax_i (σ.1 1 1)) dX9_addBytes_36 rfl shC_1 rfl rfl rfl (by decide) fl_X9_15 ?_
        refine ax_iload_n (q := 40) (i := 3) dX9_addBytes_39 rfl rfl rfl ?_
        refine ax_iast (q := 41) (a := (Int32.toNatClampNeg (σ.1 1 1))) dX9_addBytes_40 rfl shC_14 (h4 c1 c2 c3) rfl ?_
        refine ax_aload_n (q := 42) (i := 0) dX9_addBytes_41 rfl rfl rfl ?_
        refine ax_dupr (q := 43) dX9_addBytes_42 rfl ?_
        refine ax_get (q := 46) (k := 1) (j := 1) (v := ax_i (σ.1 1 1)) dX9_addBytes_43 rfl shC_1 rfl rfl rfl (by decide) fl_X9_15 ?_
        refine ax_iconst (q := 47) dX9_addBytes_46 rfl ki_1 ?_
        refine ax_iadd (q := 48) dX9_addBytes_47 rfl ?_
        refine ax_puti (q := 51) (k := 1) (j := 1) dX9_addBytes_48 rfl shC_1 rfl rfl (by decide) fl_X9_15 rfl rfl rfl rfl ?_
        refine ax_iincK (q := 54) (lv2 := [some (ax_r 1), some (ax_i x1), some (ax_i (x2 + (-8 : Int32))), some (ax_i ((x1 >>> (x2 &&& 31)) &&& (255 : Int32)))]) dX9_addBytes_51 rfl rfl ki_m8 (by decide) rfl rfl ?_
        refine ax_goto (tgt := 3) dX9_addBytes_54 (by decide) ?_
        refine ax_fg (lv2 := [some (ax_r 1), some (ax_i x1), some (ax_i (x2 + (-8 : Int32))), none]) ⟨rfl, rfl, rfl, trivial⟩ ?_
        exact (k5 c1 c2 c3)
set_option maxRecDepth 20000 in
theorem s_X10_add_0 {d : Nat} (hd : 0 ≤ d) {Q : Option ax_V → ax_S → Prop} (σ : ax_S) (a0 : Int32) (k1 : ((Int32.ofNat 120) ≤ (σ.1 11 1)) → Q none σ) (h2 : (¬ ((Int32.ofNat 120) ≤ (σ.1 11 1))) → vp_in (σ.1 11 1) 120) (k3 : (¬ ((Int32.ofNat 120) ≤ (σ.1 11 1))) → Q none (ax_ui (ax_ui σ 44 (Int32.toNatClampNeg (σ.1 11 1)) a0) 11 1 ((σ.1 11 1) + (1 : Int32)))) : ax_W shC (d + 1) mX10_add Q 0 [some (ax_r 11), some (ax_i a0)] [] σ := by
  refine ax_aload_n (q := 1) (i := 0) dX10_add_0 rfl rfl rfl ?_
  refine ax_get (q := 4) (k := 11) (j := 1) (v := ax_i (σ.1 11 1)) dX10_add_1 rfl shC_11 rfl rfl rfl (by decide) fl_X10_15 ?_
  refine ax_aload_n (q := 5) (i := 0) dX10_add_4 rfl rfl rfl ?_
  refine ax_get (q := 8) (k := 11) (j := 0) (v := ax_r 44) dX10_add_5 rfl shC_11 rfl rfl rfl (by decide) fl_X10_11 ?_
  refine ax_alen (q := 9) dX10_add_8 rfl shC_44 ?_
  refine ax_icmp_ge (tgt := 32) (q := 12) dX10_add_9 (by decide) rfl (fun c1 => ?_) (fun c1 => ?_)
  · exact ax_vret dX10_add_32 rfl (k1 c1)
  · refine ax_aload_n (q := 13) (i := 0) dX10_add_12 rfl rfl rfl ?_
    refine ax_get (q := 16) (k := 11) (j := 0) (v := ax_r 44) dX10_add_13 rfl shC_11 rfl rfl rfl (by decide) fl_X10_11 ?_
    refine ax_aload_n (q := 17) (i := 0) dX10_add_16 rfl rfl rfl ?_
    refine ax_get (q := 20) (k := 11) (j := 1) (v := ax_i (σ.1 11 1)) dX10_add_17 rfl shC_11 rfl rfl rfl (by decide) fl_X10_15 ?_
    refine ax_iload_n (q := 21) (i := 1) dX10_add_20 rfl rfl rfl ?_
    refine ax_iast (q := 22) (a := (Int32.toNatClampNeg (σ.1 11 1))) dX10_add_21 rfl shC_44 (h2 c1) rfl ?_
    refine ax_aload_n (q := 23) (i := 0) dX10_add_22 rfl rfl rfl ?_
    refine ax_dupr (q := 24) dX10_add_23 rfl ?_
    refine ax_get (q := 27) (k := 11) (j := 1) (v := ax_i (σ.1 11 1)) dX10_add_24 rfl shC_11 rfl rfl rfl (by decide) fl_X10_15 ?_
    refine ax_iconst (q := 28) dX10_add_27 rfl ki_1 ?_
    refine ax_iadd (q := 29) dX10_add_28 rfl ?_
    refine ax_puti (q := 32) (k := 11) (j := 1) dX10_add_29 rfl shC_11 rfl rfl (by decide) fl_X10_15 rfl rfl rfl rfl ?_
    exact ax_vret dX10_add_32 rfl (k3 c1)
set_option maxRecDepth 20000 in
theorem s_X10_gather_0 {d : Nat} (hd : 0 ≤ d) {Q : Option ax_V → ax_S → Prop} (σ : ax_S) (a0 : Int32) (a1 : Int32) (k1 : (¬ a1 = 0) → ax_W shC (d + 1) mX10_gather Q 17 [some (ax_r 11), some (ax_i a0), some (ax_i a1), some (ax_i (0 : Int32)), none] [] (ax_ui σ 11 1 (0 : Int32))) (k2 : (¬ (¬ a1 = 0)) → ax_Ct shC d mX10_add [ax_r 11, ax_i (0 : Int32)] (fun r u => r = none ∧ ax_W shC (d + 1) mX10_gather Q 14 [none, none, none, none, none] [] u) (ax_ui σ 11 1 (0 : Int32))) : ax_W shC (d + 1) mX10_gather Q 0 [some (ax_r 11), some (ax_i a0), some (ax_i a1), none, none] [] σ := by
  refine ax_aload_n (q := 1) (i := 0) dX10_gather_0 rfl rfl rfl ?_
  refine ax_iconst (q := 2) dX10_gather_1 rfl ki_0 ?_
  refine ax_puti (q := 5) (k := 11) (j := 1) dX10_gather_2 rfl shC_11 rfl rfl (by decide) fl_X10_15 rfl rfl rfl rfl ?_
  refine ax_iload_n (q := 6) (i := 2) dX10_gather_5 rfl rfl rfl ?_
  refine ax_if_ne (tgt := 15) (q := 9) dX10_gather_6 (by decide) rfl (fun c1 => ?_) (fun c1 => ?_)
  · refine ax_iconst (q := 16) dX10_gather_15 rfl ki_0 ?_
    refine ax_istore_n (q := 17) (i := 3) (lv2 := [some (ax_r 11), some (ax_i a0), some (ax_i a1), some (ax_i (0 : Int32)), none]) dX10_gather_16 rfl rfl (by decide) rfl rfl ?_
    exact (k1 c1)
  · refine ax_aload_n (q := 10) (i := 0) dX10_gather_9 rfl rfl rfl ?_
    refine ax_iconst (q := 11) dX10_gather_10 rfl ki_0 ?_
    refine ax_fg (lv2 := [none, none, none, none, none]) trivial ?_
    exact ax_callVcv (q := 14) (As := [ax_i (0 : Int32)]) (st := []) dX10_gather_11 rfl lk_X10_19 shC_11 rfl rfl rfl rfl (Nat.le_of_ble_eq_true rfl) (k2 c1)
set_option maxRecDepth 20000 in
theorem s_X10_gather_14 {d : Nat} (hd : 0 ≤ d) {Q : Option ax_V → ax_S → Prop} (σ : ax_S)  (k1 : Q none σ) : ax_W shC (d + 1) mX10_gather Q 14 [none, none, none, none, none] [] σ := by
  exact ax_vret dX10_gather_14 rfl k1
set_option maxRecDepth 20000 in
theorem s_X10_gather_17 {d : Nat} (hd : 1 ≤ d) {Q : Option ax_V → ax_S → Prop} (σ : ax_S) (x1 : Int32) (x2 : Int32) (x3 : Int32) (k1 : ((16 : Int32) ≤ x3) → Q none σ) (k2 : (¬ ((16 : Int32) ≤ x3)) → (¬ ((x1 >>> (x3 &&& 31)) &&& (1 : Int32)) = 0) → (¬ x2 = (1 : Int32)) → ax_W shC (d + 1) mX10_gather Q 52 [some (ax_r 11), some (ax_i x1), some (ax_i x2), some (ax_i x3), some (ax_i (0 : Int32))] [] σ) (k3 : (¬ ((16 : Int32) ≤ x3)) → (¬ ((x1 >>> (x3 &&& 31)) &&& (1 : Int32)) = 0) → (¬ (¬ x2 = (1 : Int32))) → ax_Ct shC d mX10_add [ax_r 11, ax_i ((1 : Int32) <<< (x3 &&& 31))] (fun r u => r = none ∧ ax_W shC (d + 1) mX10_gather Q 46 [some (ax_r 11), some (ax_i x1), some (ax_i x2), some (ax_i x3), none] [] u) σ) (k4 : (¬ ((16 : Int32) ≤ x3)) → (¬ (¬ ((x1 >>> (x3 &&& 31)) &&& (1 : Int32)) = 0)) → ax_W shC (d + 1) mX10_gather Q 17 [some (ax_r 11), some (ax_i x1), some (ax_i x2), some (ax_i (x3 + (1 : Int32))), none] [] σ) : ax_W shC (d + 1) mX10_gather Q 17 [some (ax_r 11), some (ax_i x1), some (ax_i x2), some (ax_i x3), none] [] σ := by
  refine ax_iload_n (q := 18) (i := 3) dX10_gather_17 rfl rfl rfl ?_
  refine ax_bipush (q := 20) dX10_gather_18 rfl kb_16 ?_
  refine ax_icmp_ge (tgt := 92) (q := 23) dX10_gather_20 (by decide) rfl (fun c1 => ?_) (fun c1 => ?_)
  · exact ax_vret dX10_gather_92 rfl (k1 c1)
  · refine ax_iload_n (q := 24) (i := 1) dX10_gather_23 rfl rfl rfl ?_
    refine ax_iload_n (q := 25) (i := 3) dX10_gather_24 rfl rfl rfl ?_
    refine ax_callNfi (q := 28) (As := [ax_i x1, ax_i x3]) (st := []) (x := ((x1 >>> (x3 &&& 31)) &&& (1 : Int32))) (σ2 := σ) dX10_gather_25 rfl lk_X10_23 rfl rfl (Nat.le_of_ble_eq_true rfl) (f_X11_bitOf (sh := shC) σ x1 x3  (d := d) (by omega)) ?_
    refine ax_if_ne (tgt := 34) (q := 31) dX10_gather_28 (by decide) rfl (fun c2 => ?_) (fun c2 => ?_)
    · refine ax_iload_n (q := 35) (i := 2) dX10_gather_34 rfl rfl rfl ?_
      refine ax_iconst (q := 36) dX10_gather_35 rfl ki_1 ?_
      refine ax_icmp_ne (tgt := 49) (q := 39) dX10_gather_36 (by decide) rfl (fun c3 => ?_) (fun c3 => ?_)
      · refine ax_iconst (q := 50) dX10_gather_49 rfl ki_0 ?_
        refine ax_istore (q := 52) (lv2 := [some (ax_r 11), some (ax_i x1), some (ax_i x2), some (ax_i x3), some (ax_i (0 : Int32))]) dX10_gather_50 rfl (by decide) rfl rfl ?_
        exact (k2 c1 c2 c3)
      · refine ax_aload_n (q := 40) (i := 0) dX10_gather_39 rfl rfl rfl ?_
        refine ax_iconst (q := 41) dX10_gather_40 rfl ki_1 ?_
        refine ax_iload_n (q := 42) (i := 3) dX10_gather_41 rfl rfl rfl ?_
        refine ax_ishl (q := 43) dX10_gather_42 rfl ?_
        exact ax_callVcv (q := 46) (As := [ax_i ((1 : Int32) <<< (x3 &&& 31))]) (st := []) dX10_gather_43 rfl lk_X10_19 shC_11 rfl rfl rfl rfl (Nat.le_of_ble_eq_true rfl) (k3 c1 c2 c3)
    · refine ax_goto (tgt := 86) dX10_gather_31 (by decide) ?_
      refine ax_iincK (q := 89) (lv2 := [some (ax_r 11), some (ax_i x1), some (ax_i x2), some (ax_i (x3 + (1 : Int32))), none]) dX10_gather_86 rfl rfl ki_1 (by decide) rfl rfl ?_
      refine ax_goto (tgt := 17) dX10_gather_89 (by decide) ?_
      exact (k4 c1 c2)
set_option maxRecDepth 20000 in
theorem s_X10_gather_46 {d : Nat} (hd : 0 ≤ d) {Q : Option ax_V → ax_S → Prop} (σ : ax_S) (x1 : Int32) (x2 : Int32) (x3 : Int32) (k1 : ax_W shC (d + 1) mX10_gather Q 17 [some (ax_r 11), some (ax_i x1), some (ax_i x2), some (ax_i (x3 + (1 : Int32))), none] [] σ) : ax_W shC (d + 1) mX10_gather Q 46 [some (ax_r 11), some (ax_i x1), some (ax_i x2), some (ax_i x3), none] [] σ := by
  refine ax_goto (tgt := 86) dX10_gather_46 (by decide) ?_
  refine ax_iincK (q := 89) (lv2 := [some (ax_r 11), some (ax_i x1), some (ax_i x2), some (ax_i (x3 + (1 : Int32))), none]) dX10_gather_86 rfl rfl ki_1 (by decide) rfl rfl ?_
  refine ax_goto (tgt := 17) dX10_gather_89 (by decide) ?_
  exact k1
set_option maxRecDepth 20000 in
theorem s_X10_gather_52 {d : Nat} (hd : 1 ≤ d) {Q : Option ax_V → ax_S → Prop} (σ : ax_S) (x1 : Int32) (x2 : Int32) (x3 : Int32) (x4 : Int32) (k1 : (x3 ≤ x4) → ax_W shC (d + 1) mX10_gather Q 17 [some (ax_r 11), some (ax_i x1), some (ax_i x2), some (ax_i (x3 + (1 : Int32))), none] [] σ) (k2 : (¬ (x3 ≤ x4)) → (¬ ((x1 >>> (x4 &&& 31)) &&& (1 : Int32)) = (1 : Int32)) → ax_W shC (d + 1) mX10_gather Q 52 [some (ax_r 11), some (ax_i x1), some (ax_i x2), some (ax_i x3), some (ax_i (x4 + (1 : Int32)))] [] σ) (k3 : (¬ (x3 ≤ x4)) → (¬ (¬ ((x1 >>> (x4 &&& 31)) &&& (1 : Int32)) = (1 : Int32))) → ax_Ct shC d mX10_add [ax_r 11, ax_i (((1 : Int32) <<< (x3 &&& 31)) ||| ((1 : Int32) <<< (x4 &&& 31)))] (fun r u => r = none ∧ ax_W shC (d + 1) mX10_gather Q 80 [some (ax_r 11), some (ax_i x1), some (ax_i x2), some (ax_i x3), some (ax_i x4)] [] u) σ) : ax_W shC (d + 1) mX10_gather Q 52 [some (ax_r 11), some (ax_i x1), some (ax_i x2), some (ax_i x3), some (ax_i x4)] [] σ := by
  refine ax_iload (q := 54) dX10_gather_52 rfl rfl ?_
  refine ax_iload_n (q := 55) (i := 3) dX10_gather_54 rfl rfl rfl ?_
  refine ax_icmp_ge (tgt := 86) (q := 58) dX10_gather_55 (by decide) rfl (fun c1 => ?_) (fun c1 => ?_)
  · refine ax_iincK (q := 89) (lv2 := [some (ax_r 11), some (ax_i x1), some (ax_i x2), some (ax_i (x3 + (1 : Int32))), some (ax_i x4)]) dX10_gather_86 rfl rfl ki_1 (by decide) rfl rfl ?_
    refine ax_goto (tgt := 17) dX10_gather_89 (by decide) ?_
    refine ax_fg (lv2 := [some (ax_r 11), some (ax_i x1), some (ax_i x2), some (ax_i (x3 + (1 : Int32))), none]) ⟨rfl, rfl, rfl, rfl, trivial⟩ ?_
    exact (k1 c1)
  · refine ax_iload_n (q := 59) (i := 1) dX10_gather_58 rfl rfl rfl ?_
    refine ax_iload (q := 61) dX10_gather_59 rfl rfl ?_
    refine ax_callNfi (q := 64) (As := [ax_i x1, ax_i x4]) (st := []) (x := ((x1 >>> (x4 &&& 31)) &&& (1 : Int32))) (σ2 := σ) dX10_gather_61 rfl lk_X10_23 rfl rfl (Nat.le_of_ble_eq_true rfl) (f_X11_bitOf (sh := shC) σ x1 x4  (d := d) (by omega)) ?_
    refine ax_iconst (q := 65) dX10_gather_64 rfl ki_1 ?_
    refine ax_icmp_ne (tgt := 80) (q := 68) dX10_gather_65 (by decide) rfl (fun c2 => ?_) (fun c2 => ?_)
    · refine ax_iincK (q := 83) (lv2 := [some (ax_r 11), some (ax_i x1), some (ax_i x2), some (ax_i x3), some (ax_i (x4 + (1 : Int32)))]) dX10_gather_80 rfl rfl ki_1 (by decide) rfl rfl ?_
      refine ax_goto (tgt := 52) dX10_gather_83 (by decide) ?_
      exact (k2 c1 c2)
    · refine ax_aload_n (q := 69) (i := 0) dX10_gather_68 rfl rfl rfl ?_
      refine ax_iconst (q := 70) dX10_gather_69 rfl ki_1 ?_
      refine ax_iload_n (q := 71) (i := 3) dX10_gather_70 rfl rfl rfl ?_
      refine ax_ishl (q := 72) dX10_gather_71 rfl ?_
      refine ax_iconst (q := 73) dX10_gather_72 rfl ki_1 ?_
      refine ax_iload (q := 75) dX10_gather_73 rfl rfl ?_
      refine ax_ishl (q := 76) dX10_gather_75 rfl ?_
      refine ax_ior (q := 77) dX10_gather_76 rfl ?_
      exact ax_callVcv (q := 80) (As := [ax_i (((1 : Int32) <<< (x3 &&& 31)) ||| ((1 : Int32) <<< (x4 &&& 31)))]) (st := []) dX10_gather_77 rfl lk_X10_19 shC_11 rfl rfl rfl rfl (Nat.le_of_ble_eq_true rfl) (k3 c1 c2)
set_option maxRecDepth 20000 in
theorem s_X10_gather_80 {d : Nat} (hd : 0 ≤ d) {Q : Option ax_V → ax_S → Prop} (σ : ax_S) (x1 : Int32) (x2 : Int32) (x3 : Int32) (x4 : Int32) (k1 : ax_W shC (d + 1) mX10_gather Q 52 [some (ax_r 11), some (ax_i x1), some (ax_i x2), some (ax_i x3), some (ax_i (x4 + (1 : Int32)))] [] σ) : ax_W shC (d + 1) mX10_gather Q 80 [some (ax_r 11), some (ax_i x1), some (ax_i x2), some (ax_i x3), some (ax_i x4)] [] σ := by
  refine ax_iincK (q := 83) (lv2 := [some (ax_r 11), some (ax_i x1), some (ax_i x2), some (ax_i x3), some (ax_i (x4 + (1 : Int32)))]) dX10_gather_80 rfl rfl ki_1 (by decide) rfl rfl ?_
  refine ax_goto (tgt := 52) dX10_gather_83 (by decide) ?_
  exact k1
set_option maxRecDepth 20000 in
theorem s_X11_bytesOf_0 {d : Nat} (hd : 0 ≤ d) {Q : Option ax_V → ax_S → Prop} (σ : ax_S) (a0 : Int32) (k1 : ax_W shC (d + 1) mX11_bytesOf Q 4 [some (ax_i a0), some (ax_i (0 : Int32)), some (ax_i (0 : Int32))] [] σ) : ax_W shC (d + 1) mX11_bytesOf Q 0 [some (ax_i a0), none, none] [] σ := by
  refine ax_iconst (q := 1) dX11_bytesOf_0 rfl ki_0 ?_
  refine ax_istore_n (q := 2) (i := 1) (lv2 := [some (ax_i a0), some (ax_i (0 : Int32)), none]) dX11_bytesOf_1 rfl rfl (by decide) rfl rfl ?_
  refine ax_iconst (q := 3) dX11_bytesOf_2 rfl ki_0 ?_
  refine ax_istore_n (q := 4) (i := 2) (lv2 := [some (ax_i a0), some (ax_i (0 : Int32)), some (ax_i (0 : Int32))]) dX11_bytesOf_3 rfl rfl (by decide) rfl rfl ?_
  exact k1
set_option maxRecDepth 20000 in
theorem s_X11_bytesOf_4 {d : Nat} (hd : 0 ≤ d) {Q : Option ax_V → ax_S → Prop} (σ : ax_S) (x0 : Int32) (x1 : Int32) (x2 : Int32) (k1 : ((32 : Int32) ≤ x2) → Q (some (ax_i x1)) σ) (k2 : (¬ ((32 : Int32) ≤ x2)) → (((x0 >>> (x2 &&& 31)) &&& (255 : Int32)) = 0) → ax_W shC (d + 1) mX11_bytesOf Q 4 [some (ax_i x0), some (ax_i x1), some (ax_i (x2 + (8 : Int32)))] [] σ) (k3 : (¬ ((32 : Int32) ≤ x2)) → (¬ (((x0 >>> (x2 &&& 31)) &&& (255 : Int32)) = 0)) → ax_W shC (d + 1) mX11_bytesOf Q 4 [some (ax_i x0), some (ax_i (x1 + (1 : Int32))), some (ax_i (x2 + (8 : Int32)))] [] σ) : ax_W shC (d + 1) mX11_bytesOf Q 4 [some (ax_i x0), some (ax_i x1), some (ax_i x2)] [] σ := by
  refine ax_iload_n (q := 5) (i := 2) dX11_bytesOf_4 rfl rfl rfl ?_
  refine ax_bipush (q := 7) dX11_bytesOf_5 rfl kb_32 ?_
  refine ax_icmp_ge (tgt := 29) (q := 10) dX11_bytesOf_7 (by decide) rfl (fun c1 => ?_) (fun c1 => ?_)
  · refine ax_iload_n (q := 30) (i := 1) dX11_bytesOf_29 rfl rfl rfl ?_
    exact ax_iret dX11_bytesOf_30 rfl rfl (k1 c1)
  · refine ax_iload_n (q := 11) (i := 0) dX11_bytesOf_10 rfl rfl rfl ?_
    refine ax_iload_n (q := 12) (i := 2) dX11_bytesOf_11 rfl rfl rfl ?_
    refine ax_ishr (q := 13) dX11_bytesOf_12 rfl ?_
    refine ax_sipush (q := 16) dX11_bytesOf_13 rfl ks_255 ?_
    refine ax_iand (q := 17) dX11_bytesOf_16 rfl ?_
    refine ax_if_eq (tgt := 23) (q := 20) dX11_bytesOf_17 (by decide) rfl (fun c2 => ?_) (fun c2 => ?_)
    · refine ax_iincK (q := 26) (lv2 := [some (ax_i x0), some (ax_i x1), some (ax_i (x2 + (8 : Int32)))]) dX11_bytesOf_23 rfl rfl ki_8 (by decide) rfl rfl ?_
      refine ax_goto (tgt := 4) dX11_bytesOf_26 (by decide) ?_
      exact (k2 c1 c2)
    · refine ax_iincK (q := 23) (lv2 := [some (ax_i x0), some (ax_i (x1 + (1 : Int32))), some (ax_i x2)]) dX11_bytesOf_20 rfl rfl ki_1 (by decide) rfl rfl ?_
      refine ax_iincK (q := 26) (lv2 := [some (ax_i x0), some (ax_i (x1 + (1 : Int32))), some (ax_i (x2 + (8 : Int32)))]) dX11_bytesOf_23 rfl rfl ki_8 (by decide) rfl rfl ?_
      refine ax_goto (tgt := 4) dX11_bytesOf_26 (by decide) ?_
      exact (k3 c1 c2)
set_option maxRecDepth 20000 in
theorem s_X11_feed_0 {d : Nat} (hd : 0 ≤ d) {Q : Option ax_V → ax_S → Prop} (σ : ax_S) (a0 : Int32) (a1 : Int32) (a2 : Int32) (a3 : Int32) (a4 : Int32) (k1 : ax_Ct shC d mX11_bytesOf [ax_i a0] (fun r u => ∃ x : Int32, r = some (ax_i x) ∧ ax_W shC (d + 1) mX11_feed Q 4 [some (ax_r 0), some (ax_i a0), some (ax_i a1), some (ax_i a2), some (ax_i a3), some (ax_i a4), none] (ax_i x :: []) u) σ) : ax_W shC (d + 1) mX11_feed Q 0 [some (ax_r 0), some (ax_i a0), some (ax_i a1), some (ax_i a2), some (ax_i a3), some (ax_i a4), none] [] σ := by
  refine ax_iload_n (q := 1) (i := 1) dX11_feed_0 rfl rfl rfl ?_
  exact ax_callSci (q := 4) (As := [ax_i a0]) (st := []) dX11_feed_1 rfl lk_X11_110 rfl rfl (Nat.le_of_ble_eq_true rfl) k1
set_option maxRecDepth 20000 in
theorem s_X11_feed_4 {d : Nat} (hd : 0 ≤ d) {Q : Option ax_V → ax_S → Prop} (σ : ax_S) (x1 : Int32) (x2 : Int32) (x3 : Int32) (x4 : Int32) (x5 : Int32) (rr : Int32) (k1 : ax_Ct shC d mX11_bytesOf [ax_i x2] (fun r u => ∃ x : Int32, r = some (ax_i x) ∧ ax_W shC (d + 1) mX11_feed Q 8 [some (ax_r 0), some (ax_i x1), some (ax_i x2), some (ax_i x3), some (ax_i x4), some (ax_i x5), none] (ax_i x :: [ax_i rr]) u) σ) : ax_W shC (d + 1) mX11_feed Q 4 [some (ax_r 0), some (ax_i x1), some (ax_i x2), some (ax_i x3), some (ax_i x4), some (ax_i x5), none] [ax_i rr] σ := by
  refine ax_iload_n (q := 5) (i := 2) dX11_feed_4 rfl rfl rfl ?_
  exact ax_callSci (q := 8) (As := [ax_i x2]) (st := [ax_i rr]) dX11_feed_5 rfl lk_X11_110 rfl rfl (Nat.le_of_ble_eq_true rfl) k1
set_option maxRecDepth 20000 in
theorem s_X11_feed_8 {d : Nat} (hd : 0 ≤ d) {Q : Option ax_V → ax_S → Prop} (σ : ax_S) (x1 : Int32) (x2 : Int32) (x3 : Int32) (x4 : Int32) (x5 : Int32) (rr : Int32) (y0 : Int32) (k1 : ax_Ct shC d mX11_bytesOf [ax_i x3] (fun r u => ∃ x : Int32, r = some (ax_i x) ∧ ax_W shC (d + 1) mX11_feed Q 13 [some (ax_r 0), some (ax_i x1), some (ax_i x2), some (ax_i x3), some (ax_i x4), some (ax_i x5), none] (ax_i x :: [ax_i (y0 + rr)]) u) σ) : ax_W shC (d + 1) mX11_feed Q 8 [some (ax_r 0), some (ax_i x1), some (ax_i x2), some (ax_i x3), some (ax_i x4), some (ax_i x5), none] [ax_i rr, ax_i y0] σ := by
  refine ax_iadd (q := 9) dX11_feed_8 rfl ?_
  refine ax_iload_n (q := 10) (i := 3) dX11_feed_9 rfl rfl rfl ?_
  exact ax_callSci (q := 13) (As := [ax_i x3]) (st := [ax_i (y0 + rr)]) dX11_feed_10 rfl lk_X11_110 rfl rfl (Nat.le_of_ble_eq_true rfl) k1
set_option maxRecDepth 20000 in
theorem s_X11_feed_13 {d : Nat} (hd : 0 ≤ d) {Q : Option ax_V → ax_S → Prop} (σ : ax_S) (x1 : Int32) (x2 : Int32) (x3 : Int32) (x4 : Int32) (x5 : Int32) (rr : Int32) (y0 : Int32) (k1 : ax_Ct shC d mX11_bytesOf [ax_i x4] (fun r u => ∃ x : Int32, r = some (ax_i x) ∧ ax_W shC (d + 1) mX11_feed Q 19 [some (ax_r 0), some (ax_i x1), some (ax_i x2), some (ax_i x3), some (ax_i x4), some (ax_i x5), none] (ax_i x :: [ax_i (y0 + rr)]) u) σ) : ax_W shC (d + 1) mX11_feed Q 13 [some (ax_r 0), some (ax_i x1), some (ax_i x2), some (ax_i x3), some (ax_i x4), some (ax_i x5), none] [ax_i rr, ax_i y0] σ := by
  refine ax_iadd (q := 14) dX11_feed_13 rfl ?_
  refine ax_iload (q := 16) dX11_feed_14 rfl rfl ?_
  exact ax_callSci (q := 19) (As := [ax_i x4]) (st := [ax_i (y0 + rr)]) dX11_feed_16 rfl lk_X11_110 rfl rfl (Nat.le_of_ble_eq_true rfl) k1
set_option maxRecDepth 20000 in
theorem s_X11_feed_19 {d : Nat} (hd : 0 ≤ d) {Q : Option ax_V → ax_S → Prop} (σ : ax_S) (x1 : Int32) (x2 : Int32) (x3 : Int32) (x4 : Int32) (x5 : Int32) (rr : Int32) (y0 : Int32) (k1 : ax_Ct shC d mX11_bytesOf [ax_i x5] (fun r u => ∃ x : Int32, r = some (ax_i x) ∧ ax_W shC (d + 1) mX11_feed Q 25 [some (ax_r 0), some (ax_i x1), some (ax_i x2), some (ax_i x3), some (ax_i x4), some (ax_i x5), none] (ax_i x :: [ax_i (y0 + rr)]) u) σ) : ax_W shC (d + 1) mX11_feed Q 19 [some (ax_r 0), some (ax_i x1), some (ax_i x2), some (ax_i x3), some (ax_i x4), some (ax_i x5), none] [ax_i rr, ax_i y0] σ := by
  refine ax_iadd (q := 20) dX11_feed_19 rfl ?_
  refine ax_iload (q := 22) dX11_feed_20 rfl rfl ?_
  exact ax_callSci (q := 25) (As := [ax_i x5]) (st := [ax_i (y0 + rr)]) dX11_feed_22 rfl lk_X11_110 rfl rfl (Nat.le_of_ble_eq_true rfl) k1
set_option maxRecDepth 20000 in
theorem s_X11_feed_25 {d : Nat} (hd : 0 ≤ d) {Q : Option ax_V → ax_S → Prop} (σ : ax_S) (x1 : Int32) (x2 : Int32) (x3 : Int32) (x4 : Int32) (x5 : Int32) (rr : Int32) (y0 : Int32) (k1 : (((σ.1 1 1) + (y0 + rr)) ≤ (240 : Int32)) → ax_Ct shC d mX9_addBytes [ax_r 1, ax_i x1] (fun r u => r = none ∧ ax_W shC (d + 1) mX11_feed Q 54 [some (ax_r 0), none, some (ax_i x2), some (ax_i x3), some (ax_i x4), some (ax_i x5), none] [] u) σ) (k2 : (¬ (((σ.1 1 1) + (y0 + rr)) ≤ (240 : Int32))) → Q (some (ax_i (-1 : Int32))) σ) : ax_W shC (d + 1) mX11_feed Q 25 [some (ax_r 0), some (ax_i x1), some (ax_i x2), some (ax_i x3), some (ax_i x4), some (ax_i x5), none] [ax_i rr, ax_i y0] σ := by
  refine ax_iadd (q := 26) dX11_feed_25 rfl ?_
  refine ax_istore (q := 28) (lv2 := [some (ax_r 0), some (ax_i x1), some (ax_i x2), some (ax_i x3), some (ax_i x4), some (ax_i x5), some (ax_i (y0 + rr))]) dX11_feed_26 rfl (by decide) rfl rfl ?_
  refine ax_aload_n (q := 29) (i := 0) dX11_feed_28 rfl rfl rfl ?_
  refine ax_get (q := 32) (k := 0) (j := 0) (v := ax_r 1) dX11_feed_29 rfl shC_0 rfl rfl rfl (by decide) fl_X11_10 ?_
  refine ax_get (q := 35) (k := 1) (j := 1) (v := ax_i (σ.1 1 1)) dX11_feed_32 rfl shC_1 rfl rfl rfl (by decide) fl_X11_114 ?_
  refine ax_iload (q := 37) dX11_feed_35 rfl rfl ?_
  refine ax_iadd (q := 38) dX11_feed_37 rfl ?_
  refine ax_sipush (q := 41) dX11_feed_38 rfl ks_240 ?_
  refine ax_icmp_le (tgt := 46) (q := 44) dX11_feed_41 (by decide) rfl (fun c1 => ?_) (fun c1 => ?_)
  · refine ax_aload_n (q := 47) (i := 0) dX11_feed_46 rfl rfl rfl ?_
    refine ax_get (q := 50) (k := 0) (j := 0) (v := ax_r 1) dX11_feed_47 rfl shC_0 rfl rfl rfl (by decide) fl_X11_10 ?_
    refine ax_iload_n (q := 51) (i := 1) dX11_feed_50 rfl rfl rfl ?_
    refine ax_fg (lv2 := [some (ax_r 0), none, some (ax_i x2), some (ax_i x3), some (ax_i x4), some (ax_i x5), none]) ⟨rfl, rfl, rfl, rfl, rfl, trivial⟩ ?_
    exact ax_callVcv (q := 54) (As := [ax_i x1]) (st := []) dX11_feed_51 rfl lk_X11_117 shC_1 rfl rfl rfl rfl (Nat.le_of_ble_eq_true rfl) (k1 c1)
  · refine ax_iconst (q := 45) dX11_feed_44 rfl ki_m1 ?_
    exact ax_iret dX11_feed_45 rfl rfl (k2 c1)
set_option maxRecDepth 20000 in
theorem s_X11_feed_54 {d : Nat} (hd : 0 ≤ d) {Q : Option ax_V → ax_S → Prop} (σ : ax_S) (x2 : Int32) (x3 : Int32) (x4 : Int32) (x5 : Int32) (k1 : ax_Ct shC d mX9_addBytes [ax_r 1, ax_i x2] (fun r u => r = none ∧ ax_W shC (d + 1) mX11_feed Q 62 [some (ax_r 0), none, none, some (ax_i x3), some (ax_i x4), some (ax_i x5), none] [] u) σ) : ax_W shC (d + 1) mX11_feed Q 54 [some (ax_r 0), none, some (ax_i x2), some (ax_i x3), some (ax_i x4), some (ax_i x5), none] [] σ := by
  refine ax_aload_n (q := 55) (i := 0) dX11_feed_54 rfl rfl rfl ?_
  refine ax_get (q := 58) (k := 0) (j := 0) (v := ax_r 1) dX11_feed_55 rfl shC_0 rfl rfl rfl (by decide) fl_X11_10 ?_
  refine ax_iload_n (q := 59) (i := 2) dX11_feed_58 rfl rfl rfl ?_
  refine ax_fg (lv2 := [some (ax_r 0), none, none, some (ax_i x3), some (ax_i x4), some (ax_i x5), none]) ⟨rfl, rfl, rfl, rfl, trivial⟩ ?_
  exact ax_callVcv (q := 62) (As := [ax_i x2]) (st := []) dX11_feed_59 rfl lk_X11_117 shC_1 rfl rfl rfl rfl (Nat.le_of_ble_eq_true rfl) k1
set_option maxRecDepth 20000 in
theorem s_X11_feed_62 {d : Nat} (hd : 0 ≤ d) {Q : Option ax_V → ax_S → Prop} (σ : ax_S) (x3 : Int32) (x4 : Int32) (x5 : Int32) (k1 : ax_Ct shC d mX9_addBytes [ax_r 1, ax_i x3] (fun r u => r = none ∧ ax_W shC (d + 1) mX11_feed Q 70 [some (ax_r 0), none, none, none, some (ax_i x4), some (ax_i x5), none] [] u) σ) : ax_W shC (d + 1) mX11_feed Q 62 [some (ax_r 0), none, none, some (ax_i x3), some (ax_i x4), some (ax_i x5), none] [] σ := by
  refine ax_aload_n (q := 63) (i := 0) dX11_feed_62 rfl rfl rfl ?_
  refine ax_get (q := 66) (k := 0) (j := 0) (v := ax_r 1) dX11_feed_63 rfl shC_0 rfl rfl rfl (by decide) fl_X11_10 ?_
  refine ax_iload_n (q := 67) (i := 3) dX11_feed_66 rfl rfl rfl ?_
  refine ax_fg (lv2 := [some (ax_r 0), none, none, none, some (ax_i x4), some (ax_i x5), none]) ⟨rfl, rfl, rfl, trivial⟩ ?_
  exact ax_callVcv (q := 70) (As := [ax_i x3]) (st := []) dX11_feed_67 rfl lk_X11_117 shC_1 rfl rfl rfl rfl (Nat.le_of_ble_eq_true rfl) k1
set_option maxRecDepth 20000 in
theorem s_X11_feed_70 {d : Nat} (hd : 0 ≤ d) {Q : Option ax_V → ax_S → Prop} (σ : ax_S) (x4 : Int32) (x5 : Int32) (k1 : ax_Ct shC d mX9_addBytes [ax_r 1, ax_i x4] (fun r u => r = none ∧ ax_W shC (d + 1) mX11_feed Q 79 [some (ax_r 0), none, none, none, none, some (ax_i x5), none] [] u) σ) : ax_W shC (d + 1) mX11_feed Q 70 [some (ax_r 0), none, none, none, some (ax_i x4), some (ax_i x5), none] [] σ := by
  refine ax_aload_n (q := 71) (i := 0) dX11_feed_70 rfl rfl rfl ?_
  refine ax_get (q := 74) (k := 0) (j := 0) (v := ax_r 1) dX11_feed_71 rfl shC_0 rfl rfl rfl (by decide) fl_X11_10 ?_
  refine ax_iload (q := 76) dX11_feed_74 rfl rfl ?_
  refine ax_fg (lv2 := [some (ax_r 0), none, none, none, none, some (ax_i x5), none]) ⟨rfl, rfl, trivial⟩ ?_
  exact ax_callVcv (q := 79) (As := [ax_i x4]) (st := []) dX11_feed_76 rfl lk_X11_117 shC_1 rfl rfl rfl rfl (Nat.le_of_ble_eq_true rfl) k1
set_option maxRecDepth 20000 in
theorem s_X11_feed_79 {d : Nat} (hd : 0 ≤ d) {Q : Option ax_V → ax_S → Prop} (σ : ax_S) (x5 : Int32) (k1 : ax_Ct shC d mX9_addBytes [ax_r 1, ax_i x5] (fun r u => r = none ∧ ax_W shC (d + 1) mX11_feed Q 88 [some (ax_r 0), none, none, none, none, none, none] [] u) σ) : ax_W shC (d + 1) mX11_feed Q 79 [some (ax_r 0), none, none, none, none, some (ax_i x5), none] [] σ := by
  refine ax_aload_n (q := 80) (i := 0) dX11_feed_79 rfl rfl rfl ?_
  refine ax_get (q := 83) (k := 0) (j := 0) (v := ax_r 1) dX11_feed_80 rfl shC_0 rfl rfl rfl (by decide) fl_X11_10 ?_
  refine ax_iload (q := 85) dX11_feed_83 rfl rfl ?_
  refine ax_fg (lv2 := [some (ax_r 0), none, none, none, none, none, none]) ⟨rfl, trivial⟩ ?_
  exact ax_callVcv (q := 88) (As := [ax_i x5]) (st := []) dX11_feed_85 rfl lk_X11_117 shC_1 rfl rfl rfl rfl (Nat.le_of_ble_eq_true rfl) k1
set_option maxRecDepth 20000 in
theorem s_X11_feed_88 {d : Nat} (hd : 0 ≤ d) {Q : Option ax_V → ax_S → Prop} (σ : ax_S)  (k1 : Q (some (ax_i (σ.1 1 1))) σ) : ax_W shC (d + 1) mX11_feed Q 88 [some (ax_r 0), none, none, none, none, none, none] [] σ := by
  refine ax_aload_n (q := 89) (i := 0) dX11_feed_88 rfl rfl rfl ?_
  refine ax_get (q := 92) (k := 0) (j := 0) (v := ax_r 1) dX11_feed_89 rfl shC_0 rfl rfl rfl (by decide) fl_X11_10 ?_
  refine ax_get (q := 95) (k := 1) (j := 1) (v := ax_i (σ.1 1 1)) dX11_feed_92 rfl shC_1 rfl rfl rfl (by decide) fl_X11_114 ?_
  exact ax_iret dX11_feed_95 rfl rfl k1
set_option maxRecDepth 20000 in
theorem s_X11_end_0 {d : Nat} (hd : 0 ≤ d) {Q : Option ax_V → ax_S → Prop} (σ : ax_S) (a0 : Int32) (k1 : (a0 < 0) → Q (some (ax_i (0 : Int32))) σ) (k2 : (¬ (a0 < 0)) → (a0 ≤ (σ.1 1 1)) → Q (some (ax_i (1 : Int32))) (ax_ui σ 1 1 a0)) (k3 : (¬ (a0 < 0)) → (¬ (a0 ≤ (σ.1 1 1))) → Q (some (ax_i (0 : Int32))) σ) : ax_W shC (d + 1) mX11_end Q 0 [some (ax_r 0), some (ax_i a0)] [] σ := by
  refine ax_iload_n (q := 1) (i := 1) dX11_end_0 rfl rfl rfl ?_
  refine ax_if_lt (tgt := 15) (q := 4) dX11_end_1 (by decide) rfl (fun c1 => ?_) (fun c1 => ?_)
  · refine ax_iconst (q := 16) dX11_end_15 rfl ki_0 ?_
    exact ax_iret dX11_end_16 rfl rfl (k1 c1)
  · refine ax_iload_n (q := 5) (i := 1) dX11_end_4 rfl rfl rfl ?_
    refine ax_aload_n (q := 6) (i := 0) dX11_end_5 rfl rfl rfl ?_
    refine ax_get (q := 9) (k := 0) (j := 0) (v := ax_r 1) dX11_end_6 rfl shC_0 rfl rfl rfl (by decide) fl_X11_10 ?_
    refine ax_get (q := 12) (k := 1) (j := 1) (v := ax_i (σ.1 1 1)) dX11_end_9 rfl shC_1 rfl rfl rfl (by decide) fl_X11_114 ?_
    refine ax_icmp_le (tgt := 17) (q := 15) dX11_end_12 (by decide) rfl (fun c2 => ?_) (fun c2 => ?_)
    · refine ax_aload_n (q := 18) (i := 0) dX11_end_17 rfl rfl rfl ?_
      refine ax_get (q := 21) (k := 0) (j := 0) (v := ax_r 1) dX11_end_18 rfl shC_0 rfl rfl rfl (by decide) fl_X11_10 ?_
      refine ax_iload_n (q := 22) (i := 1) dX11_end_21 rfl rfl rfl ?_
      refine ax_puti (q := 25) (k := 1) (j := 1) dX11_end_22 rfl shC_1 rfl rfl (by decide) fl_X11_114 rfl rfl rfl rfl ?_
      refine ax_iconst (q := 26) dX11_end_25 rfl ki_1 ?_
      exact ax_iret dX11_end_26 rfl rfl (k2 c1 c2)
    · refine ax_iconst (q := 16) dX11_end_15 rfl ki_0 ?_
      exact ax_iret dX11_end_16 rfl rfl (k3 c1 c2)
set_option maxRecDepth 20000 in
theorem f_X11_isBit {sh : List ax_H} (σ : ax_S) (a0 : Int32)  {d : Nat} (hd : 1 ≤ d) : ax_Ct sh d mX11_isBit [ax_i a0] (fun r u => r = some (ax_i (if ((a0 = 0) ∨ (¬ (¬ a0 = (1 : Int32)))) then (1 : Int32) else 0)) ∧ u = σ) σ := by
  obtain ⟨d, rfl⟩ : ∃ e, d = e + 1 := ⟨d - 1, by omega⟩
  refine ax_Ct.of (lv := [some (ax_i a0)]) (by decide +kernel) (fun ad => Nat.le_of_ble_eq_true rfl) (fun ad => rfl) ?_
  refine ax_iload_n (q := 1) (i := 0) dX11_isBit_0 rfl rfl rfl ?_
  have K3 : ax_W sh (d + 1) mX11_isBit (fun r u => r = some (ax_i (if ((a0 = 0) ∨ (¬ (¬ a0 = (1 : Int32)))) then (1 : Int32) else 0)) ∧ u = σ) 14 [some (ax_i a0)] [ax_i (if ((a0 = 0) ∨ (¬ (¬ a0 = (1 : Int32)))) then (1 : Int32) else 0)] σ := by
    exact ax_iret dX11_isBit_14 rfl (ax_nb _) ⟨rfl, rfl⟩
  refine ax_if_eq (tgt := 9) (q := 4) dX11_isBit_1 (by decide) rfl (fun c1 => ?_) (fun c1 => ?_)
  · refine ax_iconst (q := 10) dX11_isBit_9 rfl ki_1 ?_
    refine ax_goto (tgt := 14) dX11_isBit_10 (by decide) ?_
    exact ax_cv (if_pos (Or.inl c1)) K3
  · refine ax_iload_n (q := 5) (i := 0) dX11_isBit_4 rfl rfl rfl ?_
    refine ax_iconst (q := 6) dX11_isBit_5 rfl ki_1 ?_
    refine ax_icmp_ne (tgt := 13) (q := 9) dX11_isBit_6 (by decide) rfl (fun c2 => ?_) (fun c2 => ?_)
    · refine ax_iconst (q := 14) dX11_isBit_13 rfl ki_0 ?_
      exact ax_cv (if_neg (fun z => z.elim c1 (fun y => y c2))) K3
    · refine ax_iconst (q := 10) dX11_isBit_9 rfl ki_1 ?_
      refine ax_goto (tgt := 14) dX11_isBit_10 (by decide) ?_
      exact ax_cv (if_pos (Or.inr c2)) K3
set_option maxRecDepth 20000 in
theorem s_X11_tapeReads_0 {d : Nat} (hd : 0 ≤ d) {Q : Option ax_V → ax_S → Prop} (σ : ax_S) (a0 : Int32) (k1 : (¬ a0 = 0) → ax_Ct shC d mX6_reads [ax_r 3] (fun r u => ∃ x : Int32, r = some (ax_i x) ∧ ax_W shC (d + 1) mX11_tapeReads Q 21 [none, none] (ax_i x :: []) u) σ) (k2 : (¬ (¬ a0 = 0)) → ax_Ct shC d mX1_reads [ax_r 2] (fun r u => ∃ x : Int32, r = some (ax_i x) ∧ ax_W shC (d + 1) mX11_tapeReads Q 11 [none, none] (ax_i x :: []) u) σ) : ax_W shC (d + 1) mX11_tapeReads Q 0 [some (ax_r 0), some (ax_i a0)] [] σ := by
  refine ax_iload_n (q := 1) (i := 1) dX11_tapeReads_0 rfl rfl rfl ?_
  refine ax_if_ne (tgt := 14) (q := 4) dX11_tapeReads_1 (by decide) rfl (fun c1 => ?_) (fun c1 => ?_)
  · refine ax_aload_n (q := 15) (i := 0) dX11_tapeReads_14 rfl rfl rfl ?_
    refine ax_get (q := 18) (k := 0) (j := 2) (v := ax_r 3) dX11_tapeReads_15 rfl shC_0 rfl rfl rfl (by decide) fl_X11_28 ?_
    refine ax_fg (lv2 := [none, none]) trivial ?_
    exact ax_callVci (q := 21) (As := []) (st := []) dX11_tapeReads_18 rfl lk_X11_434 shC_3 rfl rfl rfl rfl (Nat.le_of_ble_eq_true rfl) (k1 c1)
  · refine ax_aload_n (q := 5) (i := 0) dX11_tapeReads_4 rfl rfl rfl ?_
    refine ax_get (q := 8) (k := 0) (j := 1) (v := ax_r 2) dX11_tapeReads_5 rfl shC_0 rfl rfl rfl (by decide) fl_X11_21 ?_
    refine ax_fg (lv2 := [none, none]) trivial ?_
    exact ax_callVci (q := 11) (As := []) (st := []) dX11_tapeReads_8 rfl lk_X11_431 shC_2 rfl rfl rfl rfl (Nat.le_of_ble_eq_true rfl) (k2 c1)
set_option maxRecDepth 20000 in
theorem s_X11_tapeReads_11 {d : Nat} (hd : 0 ≤ d) {Q : Option ax_V → ax_S → Prop} (σ : ax_S) (rr : Int32) (k1 : Q (some (ax_i rr)) σ) (h2 : rr = 0 ∨ rr = 1) : ax_W shC (d + 1) mX11_tapeReads Q 11 [none, none] [ax_i rr] σ := by
  refine ax_goto (tgt := 21) dX11_tapeReads_11 (by decide) ?_
  exact ax_iret dX11_tapeReads_21 rfl (ax_nb01 h2) k1
set_option maxRecDepth 20000 in
theorem s_X11_tapeReads_21 {d : Nat} (hd : 0 ≤ d) {Q : Option ax_V → ax_S → Prop} (σ : ax_S) (rr : Int32) (k1 : Q (some (ax_i rr)) σ) (h2 : rr = 0 ∨ rr = 1) : ax_W shC (d + 1) mX11_tapeReads Q 21 [none, none] [ax_i rr] σ := by
  exact ax_iret dX11_tapeReads_21 rfl (ax_nb01 h2) k1
set_option maxRecDepth 20000 in
theorem s_X11_fault_0 {d : Nat} (hd : 1 ≤ d) {Q : Option ax_V → ax_S → Prop} (σ : ax_S) (a0 : Int32) (k1 : ((a0 = 0) ∨ (¬ (¬ a0 = (1 : Int32)))) → ax_Ct shC d mX11_tapeReads [ax_r 0, ax_i a0] (fun r u => ∃ x : Int32, r = some (ax_i x) ∧ ax_W shC (d + 1) mX11_fault Q 15 [some (ax_r 0), none] (ax_i x :: []) u) σ) (k2 : (¬ ((a0 = 0) ∨ (¬ (¬ a0 = (1 : Int32))))) → Q (some (ax_i (-2 : Int32))) σ) : ax_W shC (d + 1) mX11_fault Q 0 [some (ax_r 0), some (ax_i a0)] [] σ := by
  refine ax_iload_n (q := 1) (i := 1) dX11_fault_0 rfl rfl rfl ?_
  refine ax_callSfi (q := 4) (As := [ax_i a0]) (st := []) (x := (if ((a0 = 0) ∨ (¬ (¬ a0 = (1 : Int32)))) then (1 : Int32) else 0)) (σ2 := σ) dX11_fault_1 rfl lk_X11_121 rfl rfl (Nat.le_of_ble_eq_true rfl) (f_X11_isBit (sh := shC) σ a0  (d := d) (by omega)) ?_
  refine ax_if_neB (tgt := 10) (q := 7) dX11_fault_4 (by decide) rfl (fun c1 => ?_) (fun c1 => ?_)
  · refine ax_aload_n (q := 11) (i := 0) dX11_fault_10 rfl rfl rfl ?_
    refine ax_iload_n (q := 12) (i := 1) dX11_fault_11 rfl rfl rfl ?_
    refine ax_fg (lv2 := [some (ax_r 0), none]) ⟨rfl, trivial⟩ ?_
    exact ax_callVci (q := 15) (As := [ax_i a0]) (st := []) dX11_fault_12 rfl lk_X11_125 shC_0 rfl rfl rfl rfl (Nat.le_of_ble_eq_true rfl) (k1 c1)
  · refine ax_bipush (q := 9) dX11_fault_7 rfl kb_m2 ?_
    exact ax_iret dX11_fault_9 rfl rfl (k2 c1)
set_option maxRecDepth 20000 in
theorem s_X11_fault_15 {d : Nat} (hd : 0 ≤ d) {Q : Option ax_V → ax_S → Prop} (σ : ax_S) (rr : Int32) (k1 : Q (some (ax_i (if (rr = 0) then (σ.1 1 2) else (-1 : Int32)))) σ) : ax_W shC (d + 1) mX11_fault Q 15 [some (ax_r 0), none] [ax_i rr] σ := by
  have K2 : ax_W shC (d + 1) mX11_fault Q 29 [some (ax_r 0), none] [ax_i (if (rr = 0) then (σ.1 1 2) else (-1 : Int32))] σ := by
    exact ax_iret dX11_fault_29 rfl rfl k1
  refine ax_if_eq (tgt := 22) (q := 18) dX11_fault_15 (by decide) rfl (fun c1 => ?_) (fun c1 => ?_)
  · refine ax_aload_n (q := 23) (i := 0) dX11_fault_22 rfl rfl rfl ?_
    refine ax_get (q := 26) (k := 0) (j := 0) (v := ax_r 1) dX11_fault_23 rfl shC_0 rfl rfl rfl (by decide) fl_X11_10 ?_
    refine ax_get (q := 29) (k := 1) (j := 2) (v := ax_i (σ.1 1 2)) dX11_fault_26 rfl shC_1 rfl rfl rfl (by decide) fl_X11_128 ?_
    exact ax_cv (if_pos c1) K2
  · refine ax_iconst (q := 19) dX11_fault_18 rfl ki_m1 ?_
    refine ax_goto (tgt := 29) dX11_fault_19 (by decide) ?_
    exact ax_cv (if_neg c1) K2
set_option maxRecDepth 20000 in
theorem s_X11_text_0 {d : Nat} (hd : 1 ≤ d) {Q : Option ax_V → ax_S → Prop} (σ : ax_S) (a0 : Int32) (k1 : (¬ ((a0 = 0) ∨ (¬ (¬ a0 = (1 : Int32))))) → Q (some (ax_i (-1 : Int32))) σ) (k2 : ((a0 = 0) ∨ (¬ (¬ a0 = (1 : Int32)))) → (¬ a0 = (1 : Int32)) → ax_Ct shC d mX11_tapeReads [ax_r 0, ax_i a0] (fun r u => ∃ x : Int32, r = some (ax_i x) ∧ ax_W shC (d + 1) mX11_text Q 28 [some (ax_r 0), some (ax_i a0)] (ax_i x :: []) u) σ) (k3 : ((a0 = 0) ∨ (¬ (¬ a0 = (1 : Int32)))) → (¬ (¬ a0 = (1 : Int32))) → ((4 : Int32) ≤ (σ.1 4 4)) → Q (some (ax_i (-1 : Int32))) σ) (k4 : ((a0 = 0) ∨ (¬ (¬ a0 = (1 : Int32)))) → (¬ (¬ a0 = (1 : Int32))) → (¬ ((4 : Int32) ≤ (σ.1 4 4))) → ax_Ct shC d mX11_tapeReads [ax_r 0, ax_i a0] (fun r u => ∃ x : Int32, r = some (ax_i x) ∧ ax_W shC (d + 1) mX11_text Q 28 [some (ax_r 0), some (ax_i a0)] (ax_i x :: []) u) σ) : ax_W shC (d + 1) mX11_text Q 0 [some (ax_r 0), some (ax_i a0)] [] σ := by
  refine ax_iload_n (q := 1) (i := 1) dX11_text_0 rfl rfl rfl ?_
  refine ax_callSfi (q := 4) (As := [ax_i a0]) (st := []) (x := (if ((a0 = 0) ∨ (¬ (¬ a0 = (1 : Int32)))) then (1 : Int32) else 0)) (σ2 := σ) dX11_text_1 rfl lk_X11_121 rfl rfl (Nat.le_of_ble_eq_true rfl) (f_X11_isBit (sh := shC) σ a0  (d := d) (by omega)) ?_
  refine ax_if_eqB (tgt := 31) (q := 7) dX11_text_4 (by decide) rfl (fun c1 => ?_) (fun c1 => ?_)
  · refine ax_iconst (q := 32) dX11_text_31 rfl ki_m1 ?_
    exact ax_iret dX11_text_32 rfl rfl (k1 c1)
  · refine ax_iload_n (q := 8) (i := 1) dX11_text_7 rfl rfl rfl ?_
    refine ax_iconst (q := 9) dX11_text_8 rfl ki_1 ?_
    refine ax_icmp_ne (tgt := 23) (q := 12) dX11_text_9 (by decide) rfl (fun c2 => ?_) (fun c2 => ?_)
    · refine ax_aload_n (q := 24) (i := 0) dX11_text_23 rfl rfl rfl ?_
      refine ax_iload_n (q := 25) (i := 1) dX11_text_24 rfl rfl rfl ?_
      exact ax_callVci (q := 28) (As := [ax_i a0]) (st := []) dX11_text_25 rfl lk_X11_125 shC_0 rfl rfl rfl rfl (Nat.le_of_ble_eq_true rfl) (k2 c1 c2)
    · refine ax_aload_n (q := 13) (i := 0) dX11_text_12 rfl rfl rfl ?_
      refine ax_get (q := 16) (k := 0) (j := 3) (v := ax_r 4) dX11_text_13 rfl shC_0 rfl rfl rfl (by decide) fl_X11_35 ?_
      refine ax_get (q := 19) (k := 4) (j := 4) (v := ax_i (σ.1 4 4)) dX11_text_16 rfl shC_4 rfl rfl rfl (by decide) fl_X11_131 ?_
      refine ax_iconst (q := 20) dX11_text_19 rfl ki_4 ?_
      refine ax_icmp_ge (tgt := 31) (q := 23) dX11_text_20 (by decide) rfl (fun c3 => ?_) (fun c3 => ?_)
      · refine ax_iconst (q := 32) dX11_text_31 rfl ki_m1 ?_
        exact ax_iret dX11_text_32 rfl rfl (k3 c1 c2 c3)
      · refine ax_aload_n (q := 24) (i := 0) dX11_text_23 rfl rfl rfl ?_
        refine ax_iload_n (q := 25) (i := 1) dX11_text_24 rfl rfl rfl ?_
        exact ax_callVci (q := 28) (As := [ax_i a0]) (st := []) dX11_text_25 rfl lk_X11_125 shC_0 rfl rfl rfl rfl (Nat.le_of_ble_eq_true rfl) (k4 c1 c2 c3)
set_option maxRecDepth 20000 in
theorem s_X11_text_28 {d : Nat} (hd : 0 ≤ d) {Q : Option ax_V → ax_S → Prop} (σ : ax_S) (x1 : Int32) (rr : Int32) (k1 : (¬ rr = 0) → (¬ x1 = (1 : Int32)) → ax_Ct shC d mX0_take [ax_r 5, ax_r 2] (fun r u => r = none ∧ ax_W shC (d + 1) mX11_text Q 69 [some (ax_r 0), none] [] u) (ax_ui σ 1 1 (0 : Int32))) (k2 : (¬ rr = 0) → (¬ (¬ x1 = (1 : Int32))) → ax_Ct shC d mX7_add [ax_r 4, ax_r 3] (fun r u => ∃ x : Int32, r = some (ax_i x) ∧ ax_W shC (d + 1) mX11_text Q 57 [none, none] (ax_i x :: []) u) (ax_ui σ 1 1 (0 : Int32))) (k3 : (¬ (¬ rr = 0)) → Q (some (ax_i (-1 : Int32))) σ) : ax_W shC (d + 1) mX11_text Q 28 [some (ax_r 0), some (ax_i x1)] [ax_i rr] σ := by
  refine ax_if_ne (tgt := 33) (q := 31) dX11_text_28 (by decide) rfl (fun c1 => ?_) (fun c1 => ?_)
  · refine ax_aload_n (q := 34) (i := 0) dX11_text_33 rfl rfl rfl ?_
    refine ax_get (q := 37) (k := 0) (j := 0) (v := ax_r 1) dX11_text_34 rfl shC_0 rfl rfl rfl (by decide) fl_X11_10 ?_
    refine ax_iconst (q := 38) dX11_text_37 rfl ki_0 ?_
    refine ax_puti (q := 41) (k := 1) (j := 1) dX11_text_38 rfl shC_1 rfl rfl (by decide) fl_X11_114 rfl rfl rfl rfl ?_
    refine ax_iload_n (q := 42) (i := 1) dX11_text_41 rfl rfl rfl ?_
    refine ax_iconst (q := 43) dX11_text_42 rfl ki_1 ?_
    refine ax_icmp_ne (tgt := 58) (q := 46) dX11_text_43 (by decide) rfl (fun c2 => ?_) (fun c2 => ?_)
    · refine ax_aload_n (q := 59) (i := 0) dX11_text_58 rfl rfl rfl ?_
      refine ax_get (q := 62) (k := 0) (j := 4) (v := ax_r 5) dX11_text_59 rfl shC_0 rfl rfl rfl (by decide) fl_X11_42 ?_
      refine ax_aload_n (q := 63) (i := 0) dX11_text_62 rfl rfl rfl ?_
      refine ax_get (q := 66) (k := 0) (j := 1) (v := ax_r 2) dX11_text_63 rfl shC_0 rfl rfl rfl (by decide) fl_X11_21 ?_
      refine ax_fg (lv2 := [some (ax_r 0), none]) ⟨rfl, trivial⟩ ?_
      exact ax_callVcv (q := 69) (As := [ax_r 2]) (st := []) dX11_text_66 rfl lk_X11_138 shC_5 rfl rfl rfl rfl (Nat.le_of_ble_eq_true rfl) (k1 c1 c2)
    · refine ax_aload_n (q := 47) (i := 0) dX11_text_46 rfl rfl rfl ?_
      refine ax_get (q := 50) (k := 0) (j := 3) (v := ax_r 4) dX11_text_47 rfl shC_0 rfl rfl rfl (by decide) fl_X11_35 ?_
      refine ax_aload_n (q := 51) (i := 0) dX11_text_50 rfl rfl rfl ?_
      refine ax_get (q := 54) (k := 0) (j := 2) (v := ax_r 3) dX11_text_51 rfl shC_0 rfl rfl rfl (by decide) fl_X11_28 ?_
      refine ax_fg (lv2 := [none, none]) trivial ?_
      exact ax_callVci (q := 57) (As := [ax_r 3]) (st := []) dX11_text_54 rfl lk_X11_134 shC_4 rfl rfl rfl rfl (Nat.le_of_ble_eq_true rfl) (k2 c1 c2)
  · refine ax_iconst (q := 32) dX11_text_31 rfl ki_m1 ?_
    exact ax_iret dX11_text_32 rfl rfl (k3 c1)
set_option maxRecDepth 20000 in
theorem s_X11_text_57 {d : Nat} (hd : 0 ≤ d) {Q : Option ax_V → ax_S → Prop} (σ : ax_S) (rr : Int32) (k1 : Q (some (ax_i rr)) σ) : ax_W shC (d + 1) mX11_text Q 57 [none, none] [ax_i rr] σ := by
  exact ax_iret dX11_text_57 rfl rfl k1
set_option maxRecDepth 20000 in
theorem s_X11_text_69 {d : Nat} (hd : 1 ≤ d) {Q : Option ax_V → ax_S → Prop} (σ : ax_S)  (k1 : Q (some (ax_i (σ.1 5 9))) (ax_ul (ax_ul (ax_ui (ax_ui (ax_ui (ax_ui (ax_ui σ 7 1 (0 : Int32)) 8 2 (0 : Int32)) 9 4 (0 : Int32)) 0 13 (0 : Int32)) 0 16 (0 : Int32)) 0 17 (1 : Int64)) 0 18 (1 : Int64))) : ax_W shC (d + 1) mX11_text Q 69 [some (ax_r 0), none] [] σ := by
  refine ax_aload_n (q := 70) (i := 0) dX11_text_69 rfl rfl rfl ?_
  refine ax_get (q := 73) (k := 0) (j := 6) (v := ax_r 7) dX11_text_70 rfl shC_0 rfl rfl rfl (by decide) fl_X11_58 ?_
  refine ax_callVfv (q := 76) (As := []) (st := []) (σ2 := (ax_ui σ 7 1 (0 : Int32))) dX11_text_73 rfl lk_X11_142 shC_7 rfl rfl rfl rfl (Nat.le_of_ble_eq_true rfl) (f_X5_clear σ   (d := d) (by omega)) ?_
  refine ax_aload_n (q := 77) (i := 0) dX11_text_76 rfl rfl rfl ?_
  refine ax_get (q := 80) (k := 0) (j := 7) (v := ax_r 8) dX11_text_77 rfl shC_0 rfl rfl rfl (by decide) fl_X11_65 ?_
  refine ax_callVfv (q := 83) (As := []) (st := []) (σ2 := (ax_ui (ax_ui σ 7 1 (0 : Int32)) 8 2 (0 : Int32))) dX11_text_80 rfl lk_X11_145 shC_8 rfl rfl rfl rfl (Nat.le_of_ble_eq_true rfl) (f_X2_clear (ax_ui σ 7 1 (0 : Int32))   (d := d) (by omega)) ?_
  refine ax_aload_n (q := 84) (i := 0) dX11_text_83 rfl rfl rfl ?_
  refine ax_get (q := 87) (k := 0) (j := 8) (v := ax_r 9) dX11_text_84 rfl shC_0 rfl rfl rfl (by decide) fl_X11_72 ?_
  refine ax_iconst (q := 88) dX11_text_87 rfl ki_0 ?_
  refine ax_puti (q := 91) (k := 9) (j := 4) dX11_text_88 rfl shC_9 rfl rfl (by decide) fl_X11_146 rfl rfl rfl rfl ?_
  refine ax_aload_n (q := 92) (i := 0) dX11_text_91 rfl rfl rfl ?_
  refine ax_iconst (q := 93) dX11_text_92 rfl ki_0 ?_
  refine ax_puti (q := 96) (k := 0) (j := 13) dX11_text_93 rfl shC_0 rfl rfl (by decide) fl_X11_147 rfl rfl rfl rfl ?_
  refine ax_aload_n (q := 97) (i := 0) dX11_text_96 rfl rfl rfl ?_
  refine ax_iconst (q := 98) dX11_text_97 rfl ki_0 ?_
  refine ax_puti (q := 101) (k := 0) (j := 16) dX11_text_98 rfl shC_0 rfl rfl (by decide) fl_X11_151 rfl rfl rfl rfl ?_
  refine ax_aload_n (q := 102) (i := 0) dX11_text_101 rfl rfl rfl ?_
  refine ax_lconst (q := 103) (v := 1) dX11_text_102 rfl rfl ?_
  refine ax_putl (q := 106) (k := 0) (j := 17) dX11_text_103 rfl shC_0 rfl rfl (by decide) fl_X11_103 rfl rfl rfl rfl ?_
  refine ax_aload_n (q := 107) (i := 0) dX11_text_106 rfl rfl rfl ?_
  refine ax_lconst (q := 108) (v := 1) dX11_text_107 rfl rfl ?_
  refine ax_putl (q := 111) (k := 0) (j := 18) dX11_text_108 rfl shC_0 rfl rfl (by decide) fl_X11_107 rfl rfl rfl rfl ?_
  refine ax_aload_n (q := 112) (i := 0) dX11_text_111 rfl rfl rfl ?_
  refine ax_get (q := 115) (k := 0) (j := 4) (v := ax_r 5) dX11_text_112 rfl shC_0 rfl rfl rfl (by decide) fl_X11_42 ?_
  refine ax_get (q := 118) (k := 5) (j := 9) (v := ax_i (σ.1 5 9)) dX11_text_115 rfl shC_5 rfl rfl rfl (by decide) fl_X11_154 ?_
  exact ax_iret dX11_text_118 rfl rfl k1
set_option maxRecDepth 20000 in
theorem s_X11_law_0 {d : Nat} (hd : 0 ≤ d) {Q : Option ax_V → ax_S → Prop} (σ : ax_S) (a0 : Int32) (k1 : (a0 < (-1 : Int32)) → Q (some (ax_i (0 : Int32))) σ) (k2 : (¬ (a0 < (-1 : Int32))) → (a0 < (σ.1 4 4)) → Q (some (ax_i (1 : Int32))) (ax_ui σ 4 5 a0)) (k3 : (¬ (a0 < (-1 : Int32))) → (¬ (a0 < (σ.1 4 4))) → Q (some (ax_i (0 : Int32))) σ) : ax_W shC (d + 1) mX11_law Q 0 [some (ax_r 0), some (ax_i a0)] [] σ := by
  refine ax_iload_n (q := 1) (i := 1) dX11_law_0 rfl rfl rfl ?_
  refine ax_iconst (q := 2) dX11_law_1 rfl ki_m1 ?_
  refine ax_icmp_lt (tgt := 16) (q := 5) dX11_law_2 (by decide) rfl (fun c1 => ?_) (fun c1 => ?_)
  · refine ax_iconst (q := 17) dX11_law_16 rfl ki_0 ?_
    exact ax_iret dX11_law_17 rfl rfl (k1 c1)
  · refine ax_iload_n (q := 6) (i := 1) dX11_law_5 rfl rfl rfl ?_
    refine ax_aload_n (q := 7) (i := 0) dX11_law_6 rfl rfl rfl ?_
    refine ax_get (q := 10) (k := 0) (j := 3) (v := ax_r 4) dX11_law_7 rfl shC_0 rfl rfl rfl (by decide) fl_X11_35 ?_
    refine ax_get (q := 13) (k := 4) (j := 4) (v := ax_i (σ.1 4 4)) dX11_law_10 rfl shC_4 rfl rfl rfl (by decide) fl_X11_131 ?_
    refine ax_icmp_lt (tgt := 18) (q := 16) dX11_law_13 (by decide) rfl (fun c2 => ?_) (fun c2 => ?_)
    · refine ax_aload_n (q := 19) (i := 0) dX11_law_18 rfl rfl rfl ?_
      refine ax_get (q := 22) (k := 0) (j := 3) (v := ax_r 4) dX11_law_19 rfl shC_0 rfl rfl rfl (by decide) fl_X11_35 ?_
      refine ax_iload_n (q := 23) (i := 1) dX11_law_22 rfl rfl rfl ?_
      refine ax_puti (q := 26) (k := 4) (j := 5) dX11_law_23 rfl shC_4 rfl rfl (by decide) fl_X11_157 rfl rfl rfl rfl ?_
      refine ax_iconst (q := 27) dX11_law_26 rfl ki_1 ?_
      exact ax_iret dX11_law_27 rfl rfl (k2 c1 c2)
    · refine ax_iconst (q := 17) dX11_law_16 rfl ki_0 ?_
      exact ax_iret dX11_law_17 rfl rfl (k3 c1 c2)
set_option maxRecDepth 20000 in
theorem f_X11_isWire (σ : ax_S) (a0 : Int32)  {d : Nat} (hd : 1 ≤ d) : ax_Ct shC d mX11_isWire [ax_r 0, ax_i a0] (fun r u => r = some (ax_i (if ((¬ (a0 < 0)) ∧ (¬ ((σ.1 5 10) ≤ a0))) then (1 : Int32) else 0)) ∧ u = σ) σ := by
  obtain ⟨d, rfl⟩ : ∃ e, d = e + 1 := ⟨d - 1, by omega⟩
  refine ax_Ct.of (lv := [some (ax_r 0), some (ax_i a0)]) (by decide +kernel) (fun ad => Nat.le_of_ble_eq_true rfl) (fun ad => rfl) ?_
  refine ax_iload_n (q := 1) (i := 1) dX11_isWire_0 rfl rfl rfl ?_
  have K3 : ax_W shC (d + 1) mX11_isWire (fun r u => r = some (ax_i (if ((¬ (a0 < 0)) ∧ (¬ ((σ.1 5 10) ≤ a0))) then (1 : Int32) else 0)) ∧ u = σ) 20 [some (ax_r 0), some (ax_i a0)] [ax_i (if ((¬ (a0 < 0)) ∧ (¬ ((σ.1 5 10) ≤ a0))) then (1 : Int32) else 0)] σ := by
    exact ax_iret dX11_isWire_20 rfl (ax_nb _) ⟨rfl, rfl⟩
  refine ax_if_lt (tgt := 19) (q := 4) dX11_isWire_1 (by decide) rfl (fun c1 => ?_) (fun c1 => ?_)
  · refine ax_iconst (q := 20) dX11_isWire_19 rfl ki_0 ?_
    exact ax_cv (if_neg (fun z => (fun y => y c1) z.1)) K3
  · refine ax_iload_n (q := 5) (i := 1) dX11_isWire_4 rfl rfl rfl ?_
    refine ax_aload_n (q := 6) (i := 0) dX11_isWire_5 rfl rfl rfl ?_
    refine ax_get (q := 9) (k := 0) (j := 4) (v := ax_r 5) dX11_isWire_6 rfl shC_0 rfl rfl rfl (by decide) fl_X11_42 ?_
    refine ax_get (q := 12) (k := 5) (j := 10) (v := ax_i (σ.1 5 10)) dX11_isWire_9 rfl shC_5 rfl rfl rfl (by decide) fl_X11_221 ?_
    refine ax_icmp_ge (tgt := 19) (q := 15) dX11_isWire_12 (by decide) rfl (fun c2 => ?_) (fun c2 => ?_)
    · refine ax_iconst (q := 20) dX11_isWire_19 rfl ki_0 ?_
      exact ax_cv (if_neg (fun z => (fun y => y c2) z.2)) K3
    · refine ax_iconst (q := 16) dX11_isWire_15 rfl ki_1 ?_
      refine ax_goto (tgt := 20) dX11_isWire_16 (by decide) ?_
      exact ax_cv (if_pos ⟨c1, c2⟩) K3
set_option maxRecDepth 20000 in
theorem s_X11_wire_0 {d : Nat} (hd : 1 ≤ d) {Q : Option ax_V → ax_S → Prop} (σ : ax_S) (a0 : Int32) (a1 : Int32) (h1 : ((¬ (a0 < 0)) ∧ (¬ ((σ.1 5 10) ≤ a0))) → (a1 = (0 : Int32)) → vp_in a0 17) (k2 : ((¬ (a0 < 0)) ∧ (¬ ((σ.1 5 10) ≤ a0))) → (a1 = (0 : Int32)) → Q (some (ax_i (σ.1 28 (Int32.toNatClampNeg a0)))) σ) (h3 : ((¬ (a0 < 0)) ∧ (¬ ((σ.1 5 10) ≤ a0))) → (¬ (a1 = (0 : Int32))) → (a1 = (1 : Int32)) → vp_in a0 17) (k4 : ((¬ (a0 < 0)) ∧ (¬ ((σ.1 5 10) ≤ a0))) → (¬ (a1 = (0 : Int32))) → (a1 = (1 : Int32)) → Q (some (ax_i (σ.1 29 (Int32.toNatClampNeg a0)))) σ) (h5 : ((¬ (a0 < 0)) ∧ (¬ ((σ.1 5 10) ≤ a0))) → (¬ (a1 = (0 : Int32))) → (¬ (a1 = (1 : Int32))) → (a1 = (2 : Int32)) → vp_in a0 17) (k6 : ((¬ (a0 < 0)) ∧ (¬ ((σ.1 5 10) ≤ a0))) → (¬ (a1 = (0 : Int32))) → (¬ (a1 = (1 : Int32))) → (a1 = (2 : Int32)) → Q (some (ax_i (σ.1 30 (Int32.toNatClampNeg a0)))) σ) (k7 : ((¬ (a0 < 0)) ∧ (¬ ((σ.1 5 10) ≤ a0))) → (¬ (a1 = (0 : Int32))) → (¬ (a1 = (1 : Int32))) → (¬ (a1 = (2 : Int32))) → (a1 = (3 : Int32)) → Q (some (ax_i (((σ.1 5 11) >>> (a0 &&& 31)) &&& (1 : Int32)))) σ) (k8 : ((¬ (a0 < 0)) ∧ (¬ ((σ.1 5 10) ≤ a0))) → (¬ (a1 = (0 : Int32))) → (¬ (a1 = (1 : Int32))) → (¬ (a1 = (2 : Int32))) → (¬ (a1 = (3 : Int32))) → (a1 = (4 : Int32)) → ax_Ct shC d mX0_live [ax_r 5] (fun r u => ∃ x : Int32, r = some (ax_i x) ∧ ax_W shC (d + 1) mX11_wire Q 93 [none, some (ax_i a0), none] (ax_i x :: []) u) σ) (k9 : ((¬ (a0 < 0)) ∧ (¬ ((σ.1 5 10) ≤ a0))) → (¬ (a1 = (0 : Int32))) → (¬ (a1 = (1 : Int32))) → (¬ (a1 = (2 : Int32))) → (¬ (a1 = (3 : Int32))) → (¬ (a1 = (4 : Int32))) → Q (some (ax_i (-1 : Int32))) σ) (k10 : (¬ ((¬ (a0 < 0)) ∧ (¬ ((σ.1 5 10) ≤ a0)))) → Q (some (ax_i (-1 : Int32))) σ) : ax_W shC (d + 1) mX11_wire Q 0 [some (ax_r 0), some (ax_i a0), some (ax_i a1)] [] σ := by
  refine ax_aload_n (q := 1) (i := 0) dX11_wire_0 rfl rfl rfl ?_
  refine ax_iload_n (q := 2) (i := 1) dX11_wire_1 rfl rfl rfl ?_
  refine ax_callVfi (q := 5) (As := [ax_i a0]) (st := []) (x := (if ((¬ (a0 < 0)) ∧ (¬ ((σ.1 5 10) ≤ a0))) then (1 : Int32) else 0)) (σ2 := σ) dX11_wire_2 rfl lk_X11_200 shC_0 rfl rfl rfl rfl (Nat.le_of_ble_eq_true rfl) (f_X11_isWire σ a0  (d := d) (by omega)) ?_
  refine ax_if_neB (tgt := 10) (q := 8) dX11_wire_5 (by decide) rfl (fun c1 => ?_) (fun c1 => ?_)
  · refine ax_iload_n (q := 11) (i := 2) dX11_wire_10 rfl rfl rfl ?_
    by_cases c2 : (a1 = (0 : Int32))
    · refine ax_tableIn (tgt := 44) (off := 33) dX11_wire_11 (by rw [c2]; decide) (by rw [c2]; decide) (by rw [c2]; decide) (by decide) ?_
      refine ax_aload_n (q := 45) (i := 0) dX11_wire_44 rfl rfl rfl ?_
      refine ax_get (q := 48) (k := 0) (j := 4) (v := ax_r 5) dX11_wire_45 rfl shC_0 rfl rfl rfl (by decide) fl_X11_42 ?_
      refine ax_get (q := 51) (k := 5) (j := 5) (v := ax_r 28) dX11_wire_48 rfl shC_5 rfl rfl rfl (by decide) fl_X11_203 ?_
      refine ax_iload_n (q := 52) (i := 1) dX11_wire_51 rfl rfl rfl ?_
      refine ax_iald (q := 53) (a := (Int32.toNatClampNeg a0)) (v := (σ.1 28 (Int32.toNatClampNeg a0))) dX11_wire_52 rfl shC_28 (h1 c1 c2) rfl rfl ?_
      exact ax_iret dX11_wire_53 rfl rfl (k2 c1 c2)
    by_cases c3 : (a1 = (1 : Int32))
    · refine ax_tableIn (tgt := 54) (off := 43) dX11_wire_11 (by rw [c3]; decide) (by rw [c3]; decide) (by rw [c3]; decide) (by decide) ?_
      refine ax_aload_n (q := 55) (i := 0) dX11_wire_54 rfl rfl rfl ?_
      refine ax_get (q := 58) (k := 0) (j := 4) (v := ax_r 5) dX11_wire_55 rfl shC_0 rfl rfl rfl (by decide) fl_X11_42 ?_
      refine ax_get (q := 61) (k := 5) (j := 6) (v := ax_r 29) dX11_wire_58 rfl shC_5 rfl rfl rfl (by decide) fl_X11_206 ?_
      refine ax_iload_n (q := 62) (i := 1) dX11_wire_61 rfl rfl rfl ?_
      refine ax_iald (q := 63) (a := (Int32.toNatClampNeg a0)) (v := (σ.1 29 (Int32.toNatClampNeg a0))) dX11_wire_62 rfl shC_29 (h3 c1 c2 c3) rfl rfl ?_
      exact ax_iret dX11_wire_63 rfl rfl (k4 c1 c2 c3)
    by_cases c4 : (a1 = (2 : Int32))
    · refine ax_tableIn (tgt := 64) (off := 53) dX11_wire_11 (by rw [c4]; decide) (by rw [c4]; decide) (by rw [c4]; decide) (by decide) ?_
      refine ax_aload_n (q := 65) (i := 0) dX11_wire_64 rfl rfl rfl ?_
      refine ax_get (q := 68) (k := 0) (j := 4) (v := ax_r 5) dX11_wire_65 rfl shC_0 rfl rfl rfl (by decide) fl_X11_42 ?_
      refine ax_get (q := 71) (k := 5) (j := 7) (v := ax_r 30) dX11_wire_68 rfl shC_5 rfl rfl rfl (by decide) fl_X11_209 ?_
      refine ax_iload_n (q := 72) (i := 1) dX11_wire_71 rfl rfl rfl ?_
      refine ax_iald (q := 73) (a := (Int32.toNatClampNeg a0)) (v := (σ.1 30 (Int32.toNatClampNeg a0))) dX11_wire_72 rfl shC_30 (h5 c1 c2 c3 c4) rfl rfl ?_
      exact ax_iret dX11_wire_73 rfl rfl (k6 c1 c2 c3 c4)
    by_cases c5 : (a1 = (3 : Int32))
    · refine ax_tableIn (tgt := 74) (off := 63) dX11_wire_11 (by rw [c5]; decide) (by rw [c5]; decide) (by rw [c5]; decide) (by decide) ?_
      refine ax_aload_n (q := 75) (i := 0) dX11_wire_74 rfl rfl rfl ?_
      refine ax_get (q := 78) (k := 0) (j := 4) (v := ax_r 5) dX11_wire_75 rfl shC_0 rfl rfl rfl (by decide) fl_X11_42 ?_
      refine ax_get (q := 81) (k := 5) (j := 11) (v := ax_i (σ.1 5 11)) dX11_wire_78 rfl shC_5 rfl rfl rfl (by decide) fl_X11_212 ?_
      refine ax_iload_n (q := 82) (i := 1) dX11_wire_81 rfl rfl rfl ?_
      refine ax_callSfi (q := 85) (As := [ax_i (σ.1 5 11), ax_i a0]) (st := []) (x := (((σ.1 5 11) >>> (a0 &&& 31)) &&& (1 : Int32))) (σ2 := σ) dX11_wire_82 rfl lk_X11_215 rfl rfl (Nat.le_of_ble_eq_true rfl) (f_X11_bitOf (sh := shC) σ (σ.1 5 11) a0  (d := d) (by omega)) ?_
      exact ax_iret dX11_wire_85 rfl rfl (k7 c1 c2 c3 c4 c5)
    by_cases c6 : (a1 = (4 : Int32))
    · refine ax_tableIn (tgt := 86) (off := 75) dX11_wire_11 (by rw [c6]; decide) (by rw [c6]; decide) (by rw [c6]; decide) (by decide) ?_
      refine ax_aload_n (q := 87) (i := 0) dX11_wire_86 rfl rfl rfl ?_
      refine ax_get (q := 90) (k := 0) (j := 4) (v := ax_r 5) dX11_wire_87 rfl shC_0 rfl rfl rfl (by decide) fl_X11_42 ?_
      refine ax_fg (lv2 := [none, some (ax_i a0), none]) ⟨rfl, trivial⟩ ?_
      exact ax_callVci (q := 93) (As := []) (st := []) dX11_wire_90 rfl lk_X11_185 shC_5 rfl rfl rfl rfl (Nat.le_of_ble_eq_true rfl) (k8 c1 c2 c3 c4 c5 c6)
    · refine ax_tableOut (tgt := 98) dX11_wire_11 (by have z0 := ax_net (k := 0) (0) (by decide) c2; have z1 := ax_net (k := 1) (1) (by decide) c3; have z2 := ax_net (k := 2) (2) (by decide) c4; have z3 := ax_net (k := 3) (3) (by decide) c5; have z4 := ax_net (k := 4) (4) (by decide) c6; omega) (by decide) ?_
      refine ax_iconst (q := 99) dX11_wire_98 rfl ki_m1 ?_
      exact ax_iret dX11_wire_99 rfl rfl (k9 c1 c2 c3 c4 c5 c6)
  · refine ax_iconst (q := 9) dX11_wire_8 rfl ki_m1 ?_
    exact ax_iret dX11_wire_9 rfl rfl (k10 c1)
set_option maxRecDepth 20000 in
theorem s_X11_wire_93 {d : Nat} (hd : 1 ≤ d) {Q : Option ax_V → ax_S → Prop} (σ : ax_S) (x1 : Int32) (rr : Int32) (k1 : Q (some (ax_i ((rr >>> (x1 &&& 31)) &&& (1 : Int32)))) σ) : ax_W shC (d + 1) mX11_wire Q 93 [none, some (ax_i x1), none] [ax_i rr] σ := by
  refine ax_iload_n (q := 94) (i := 1) dX11_wire_93 rfl rfl rfl ?_
  refine ax_callSfi (q := 97) (As := [ax_i rr, ax_i x1]) (st := []) (x := ((rr >>> (x1 &&& 31)) &&& (1 : Int32))) (σ2 := σ) dX11_wire_94 rfl lk_X11_215 rfl rfl (Nat.le_of_ble_eq_true rfl) (f_X11_bitOf (sh := shC) σ rr x1  (d := d) (by omega)) ?_
  exact ax_iret dX11_wire_97 rfl rfl k1
set_option maxRecDepth 20000 in
theorem f_X11_status (σ : ax_S) (a0 : Int32) (h1 : (¬ (a0 < 0)) → (a0 < (5 : Int32)) → vp_in a0 5) {d : Nat} (hd : 1 ≤ d) : ax_Ct shC d mX11_status [ax_r 0, ax_i a0] (fun r u => r = some (ax_i (if (a0 < 0) then (-1 : Int32) else (if (a0 < (5 : Int32)) then (σ.1 13 (Int32.toNatClampNeg a0)) else (-1 : Int32)))) ∧ u = σ) σ := by
  obtain ⟨d, rfl⟩ : ∃ e, d = e + 1 := ⟨d - 1, by omega⟩
  refine ax_Ct.of (lv := [some (ax_r 0), some (ax_i a0)]) (by decide +kernel) (fun ad => Nat.le_of_ble_eq_true rfl) (fun ad => rfl) ?_
  refine ax_iload_n (q := 1) (i := 1) dX11_status_0 rfl rfl rfl ?_
  have K3 : ax_W shC (d + 1) mX11_status (fun r u => r = some (ax_i (if (a0 < 0) then (-1 : Int32) else (if (a0 < (5 : Int32)) then (σ.1 13 (Int32.toNatClampNeg a0)) else (-1 : Int32)))) ∧ u = σ) 19 [some (ax_r 0), some (ax_i a0)] [ax_i (if (a0 < 0) then (-1 : Int32) else (if (a0 < (5 : Int32)) then (σ.1 13 (Int32.toNatClampNeg a0)) else (-1 : Int32)))] σ := by
    exact ax_iret dX11_status_19 rfl rfl ⟨rfl, rfl⟩
  refine ax_if_lt (tgt := 9) (q := 4) dX11_status_1 (by decide) rfl (fun c1 => ?_) (fun c1 => ?_)
  · refine ax_iconst (q := 10) dX11_status_9 rfl ki_m1 ?_
    refine ax_goto (tgt := 19) dX11_status_10 (by decide) ?_
    exact ax_cv (if_pos c1) K3
  · refine ax_iload_n (q := 5) (i := 1) dX11_status_4 rfl rfl rfl ?_
    refine ax_iconst (q := 6) dX11_status_5 rfl ki_5 ?_
    refine ax_icmp_lt (tgt := 13) (q := 9) dX11_status_6 (by decide) rfl (fun c2 => ?_) (fun c2 => ?_)
    · refine ax_aload_n (q := 14) (i := 0) dX11_status_13 rfl rfl rfl ?_
      refine ax_get (q := 17) (k := 0) (j := 12) (v := ax_r 13) dX11_status_14 rfl shC_0 rfl rfl rfl (by decide) fl_X11_96 ?_
      refine ax_iload_n (q := 18) (i := 1) dX11_status_17 rfl rfl rfl ?_
      refine ax_iald (q := 19) (a := (Int32.toNatClampNeg a0)) (v := (σ.1 13 (Int32.toNatClampNeg a0))) dX11_status_18 rfl shC_13 (h1 c1 c2) rfl rfl ?_
      exact ax_cv ((if_neg c1).trans (if_pos c2)) K3
    · refine ax_iconst (q := 10) dX11_status_9 rfl ki_m1 ?_
      refine ax_goto (tgt := 19) dX11_status_10 (by decide) ?_
      exact ax_cv ((if_neg c1).trans (if_neg c2)) K3
set_option maxRecDepth 20000 in
theorem s_X11_log_0 {d : Nat} (hd : 0 ≤ d) {Q : Option ax_V → ax_S → Prop} (σ : ax_S) (a0 : Int32) (a1 : Int32) (k1 : ax_Ct shC d mX2_tells [ax_r 8, ax_i a0, ax_i a1] (fun r u => ∃ x : Int32, r = some (ax_i x) ∧ ax_W shC (d + 1) mX11_log Q 9 [none, none, none] (ax_i x :: []) u) σ) : ax_W shC (d + 1) mX11_log Q 0 [some (ax_r 0), some (ax_i a0), some (ax_i a1)] [] σ := by
  refine ax_aload_n (q := 1) (i := 0) dX11_log_0 rfl rfl rfl ?_
  refine ax_get (q := 4) (k := 0) (j := 7) (v := ax_r 8) dX11_log_1 rfl shC_0 rfl rfl rfl (by decide) fl_X11_65 ?_
  refine ax_iload_n (q := 5) (i := 1) dX11_log_4 rfl rfl rfl ?_
  refine ax_iload_n (q := 6) (i := 2) dX11_log_5 rfl rfl rfl ?_
  refine ax_fg (lv2 := [none, none, none]) trivial ?_
  exact ax_callVci (q := 9) (As := [ax_i a0, ax_i a1]) (st := []) dX11_log_6 rfl lk_X11_218 shC_8 rfl rfl rfl rfl (Nat.le_of_ble_eq_true rfl) k1
set_option maxRecDepth 20000 in
theorem s_X11_log_9 {d : Nat} (hd : 0 ≤ d) {Q : Option ax_V → ax_S → Prop} (σ : ax_S) (rr : Int32) (k1 : Q (some (ax_i rr)) σ) : ax_W shC (d + 1) mX11_log Q 9 [none, none, none] [ax_i rr] σ := by
  exact ax_iret dX11_log_9 rfl rfl k1
set_option maxRecDepth 20000 in
theorem s_X11_count_0 {d : Nat} (hd : 1 ≤ d) {Q : Option ax_V → ax_S → Prop} (σ : ax_S) (a0 : Int32) (k1 : (a0 = (0 : Int32)) → Q (some (ax_i (σ.1 5 9))) σ) (k2 : (¬ (a0 = (0 : Int32))) → (a0 = (1 : Int32)) → Q (some (ax_i (σ.1 5 10))) σ) (k3 : (¬ (a0 = (0 : Int32))) → (¬ (a0 = (1 : Int32))) → (a0 = (2 : Int32)) → Q (some (ax_i (σ.1 4 4))) σ) (k4 : (¬ (a0 = (0 : Int32))) → (¬ (a0 = (1 : Int32))) → (¬ (a0 = (2 : Int32))) → (a0 = (3 : Int32)) → Q (some (ax_i (σ.1 1 1))) σ) (k5 : (¬ (a0 = (0 : Int32))) → (¬ (a0 = (1 : Int32))) → (¬ (a0 = (2 : Int32))) → (¬ (a0 = (3 : Int32))) → (a0 = (4 : Int32)) → Q (some (ax_i (σ.1 4 5))) σ) (k6 : (¬ (a0 = (0 : Int32))) → (¬ (a0 = (1 : Int32))) → (¬ (a0 = (2 : Int32))) → (¬ (a0 = (3 : Int32))) → (¬ (a0 = (4 : Int32))) → (a0 = (5 : Int32)) → Q (some (ax_i (σ.1 5 14))) σ) (k7 : (¬ (a0 = (0 : Int32))) → (¬ (a0 = (1 : Int32))) → (¬ (a0 = (2 : Int32))) → (¬ (a0 = (3 : Int32))) → (¬ (a0 = (4 : Int32))) → (¬ (a0 = (5 : Int32))) → (a0 = (6 : Int32)) → Q (some (ax_i (σ.1 5 12))) σ) (k8 : (¬ (a0 = (0 : Int32))) → (¬ (a0 = (1 : Int32))) → (¬ (a0 = (2 : Int32))) → (¬ (a0 = (3 : Int32))) → (¬ (a0 = (4 : Int32))) → (¬ (a0 = (5 : Int32))) → (¬ (a0 = (6 : Int32))) → (a0 = (7 : Int32)) → Q (some (ax_i (σ.1 5 13))) σ) (k9 : (¬ (a0 = (0 : Int32))) → (¬ (a0 = (1 : Int32))) → (¬ (a0 = (2 : Int32))) → (¬ (a0 = (3 : Int32))) → (¬ (a0 = (4 : Int32))) → (¬ (a0 = (5 : Int32))) → (¬ (a0 = (6 : Int32))) → (¬ (a0 = (7 : Int32))) → (a0 = (8 : Int32)) → ax_Ct shC d mX0_live [ax_r 5] (fun r u => ∃ x : Int32, r = some (ax_i x) ∧ ax_W shC (d + 1) mX11_count Q 147 [none, none] (ax_i x :: []) u) σ) (k10 : (¬ (a0 = (0 : Int32))) → (¬ (a0 = (1 : Int32))) → (¬ (a0 = (2 : Int32))) → (¬ (a0 = (3 : Int32))) → (¬ (a0 = (4 : Int32))) → (¬ (a0 = (5 : Int32))) → (¬ (a0 = (6 : Int32))) → (¬ (a0 = (7 : Int32))) → (¬ (a0 = (8 : Int32))) → (a0 = (9 : Int32)) → Q (some (ax_i (σ.1 0 14))) σ) (k11 : (¬ (a0 = (0 : Int32))) → (¬ (a0 = (1 : Int32))) → (¬ (a0 = (2 : Int32))) → (¬ (a0 = (3 : Int32))) → (¬ (a0 = (4 : Int32))) → (¬ (a0 = (5 : Int32))) → (¬ (a0 = (6 : Int32))) → (¬ (a0 = (7 : Int32))) → (¬ (a0 = (8 : Int32))) → (¬ (a0 = (9 : Int32))) → (a0 = (10 : Int32)) → Q (some (ax_i (σ.1 0 15))) σ) (k12 : (¬ (a0 = (0 : Int32))) → (¬ (a0 = (1 : Int32))) → (¬ (a0 = (2 : Int32))) → (¬ (a0 = (3 : Int32))) → (¬ (a0 = (4 : Int32))) → (¬ (a0 = (5 : Int32))) → (¬ (a0 = (6 : Int32))) → (¬ (a0 = (7 : Int32))) → (¬ (a0 = (8 : Int32))) → (¬ (a0 = (9 : Int32))) → (¬ (a0 = (10 : Int32))) → (a0 = (11 : Int32)) → Q (some (ax_i (σ.1 9 4))) σ) (k13 : (¬ (a0 = (0 : Int32))) → (¬ (a0 = (1 : Int32))) → (¬ (a0 = (2 : Int32))) → (¬ (a0 = (3 : Int32))) → (¬ (a0 = (4 : Int32))) → (¬ (a0 = (5 : Int32))) → (¬ (a0 = (6 : Int32))) → (¬ (a0 = (7 : Int32))) → (¬ (a0 = (8 : Int32))) → (¬ (a0 = (9 : Int32))) → (¬ (a0 = (10 : Int32))) → (¬ (a0 = (11 : Int32))) → (a0 = (12 : Int32)) → Q (some (ax_i (σ.1 0 16))) σ) (k14 : (¬ (a0 = (0 : Int32))) → (¬ (a0 = (1 : Int32))) → (¬ (a0 = (2 : Int32))) → (¬ (a0 = (3 : Int32))) → (¬ (a0 = (4 : Int32))) → (¬ (a0 = (5 : Int32))) → (¬ (a0 = (6 : Int32))) → (¬ (a0 = (7 : Int32))) → (¬ (a0 = (8 : Int32))) → (¬ (a0 = (9 : Int32))) → (¬ (a0 = (10 : Int32))) → (¬ (a0 = (11 : Int32))) → (¬ (a0 = (12 : Int32))) → (a0 = (13 : Int32)) → Q (some (ax_i (if (σ.1 8 2) < (60 : Int32) then (σ.1 8 2) else (60 : Int32)))) σ) (k15 : (¬ (a0 = (0 : Int32))) → (¬ (a0 = (1 : Int32))) → (¬ (a0 = (2 : Int32))) → (¬ (a0 = (3 : Int32))) → (¬ (a0 = (4 : Int32))) → (¬ (a0 = (5 : Int32))) → (¬ (a0 = (6 : Int32))) → (¬ (a0 = (7 : Int32))) → (¬ (a0 = (8 : Int32))) → (¬ (a0 = (9 : Int32))) → (¬ (a0 = (10 : Int32))) → (¬ (a0 = (11 : Int32))) → (¬ (a0 = (12 : Int32))) → (¬ (a0 = (13 : Int32))) → (a0 = (14 : Int32)) → Q (some (ax_i (σ.1 7 1))) σ) (k16 : (¬ (a0 = (0 : Int32))) → (¬ (a0 = (1 : Int32))) → (¬ (a0 = (2 : Int32))) → (¬ (a0 = (3 : Int32))) → (¬ (a0 = (4 : Int32))) → (¬ (a0 = (5 : Int32))) → (¬ (a0 = (6 : Int32))) → (¬ (a0 = (7 : Int32))) → (¬ (a0 = (8 : Int32))) → (¬ (a0 = (9 : Int32))) → (¬ (a0 = (10 : Int32))) → (¬ (a0 = (11 : Int32))) → (¬ (a0 = (12 : Int32))) → (¬ (a0 = (13 : Int32))) → (¬ (a0 = (14 : Int32))) → Q (some (ax_i (-1000000 : Int32))) σ) : ax_W shC (d + 1) mX11_count Q 0 [some (ax_r 0), some (ax_i a0)] [] σ := by
  refine ax_iload_n (q := 1) (i := 1) dX11_count_0 rfl rfl rfl ?_
  by_cases c1 : (a0 = (0 : Int32))
  · refine ax_tableIn (tgt := 76) (off := 75) dX11_count_1 (by rw [c1]; decide) (by rw [c1]; decide) (by rw [c1]; decide) (by decide) ?_
    refine ax_aload_n (q := 77) (i := 0) dX11_count_76 rfl rfl rfl ?_
    refine ax_get (q := 80) (k := 0) (j := 4) (v := ax_r 5) dX11_count_77 rfl shC_0 rfl rfl rfl (by decide) fl_X11_42 ?_
    refine ax_get (q := 83) (k := 5) (j := 9) (v := ax_i (σ.1 5 9)) dX11_count_80 rfl shC_5 rfl rfl rfl (by decide) fl_X11_154 ?_
    exact ax_iret dX11_count_83 rfl rfl (k1 c1)
  by_cases c2 : (a0 = (1 : Int32))
  · refine ax_tableIn (tgt := 84) (off := 83) dX11_count_1 (by rw [c2]; decide) (by rw [c2]; decide) (by rw [c2]; decide) (by decide) ?_
    refine ax_aload_n (q := 85) (i := 0) dX11_count_84 rfl rfl rfl ?_
    refine ax_get (q := 88) (k := 0) (j := 4) (v := ax_r 5) dX11_count_85 rfl shC_0 rfl rfl rfl (by decide) fl_X11_42 ?_
    refine ax_get (q := 91) (k := 5) (j := 10) (v := ax_i (σ.1 5 10)) dX11_count_88 rfl shC_5 rfl rfl rfl (by decide) fl_X11_221 ?_
    exact ax_iret dX11_count_91 rfl rfl (k2 c1 c2)
  by_cases c3 : (a0 = (2 : Int32))
  · refine ax_tableIn (tgt := 92) (off := 91) dX11_count_1 (by rw [c3]; decide) (by rw [c3]; decide) (by rw [c3]; decide) (by decide) ?_
    refine ax_aload_n (q := 93) (i := 0) dX11_count_92 rfl rfl rfl ?_
    refine ax_get (q := 96) (k := 0) (j := 3) (v := ax_r 4) dX11_count_93 rfl shC_0 rfl rfl rfl (by decide) fl_X11_35 ?_
    refine ax_get (q := 99) (k := 4) (j := 4) (v := ax_i (σ.1 4 4)) dX11_count_96 rfl shC_4 rfl rfl rfl (by decide) fl_X11_131 ?_
    exact ax_iret dX11_count_99 rfl rfl (k3 c1 c2 c3)
  by_cases c4 : (a0 = (3 : Int32))
  · refine ax_tableIn (tgt := 100) (off := 99) dX11_count_1 (by rw [c4]; decide) (by rw [c4]; decide) (by rw [c4]; decide) (by decide) ?_
    refine ax_aload_n (q := 101) (i := 0) dX11_count_100 rfl rfl rfl ?_
    refine ax_get (q := 104) (k := 0) (j := 0) (v := ax_r 1) dX11_count_101 rfl shC_0 rfl rfl rfl (by decide) fl_X11_10 ?_
    refine ax_get (q := 107) (k := 1) (j := 1) (v := ax_i (σ.1 1 1)) dX11_count_104 rfl shC_1 rfl rfl rfl (by decide) fl_X11_114 ?_
    exact ax_iret dX11_count_107 rfl rfl (k4 c1 c2 c3 c4)
  by_cases c5 : (a0 = (4 : Int32))
  · refine ax_tableIn (tgt := 108) (off := 107) dX11_count_1 (by rw [c5]; decide) (by rw [c5]; decide) (by rw [c5]; decide) (by decide) ?_
    refine ax_aload_n (q := 109) (i := 0) dX11_count_108 rfl rfl rfl ?_
    refine ax_get (q := 112) (k := 0) (j := 3) (v := ax_r 4) dX11_count_109 rfl shC_0 rfl rfl rfl (by decide) fl_X11_35 ?_
    refine ax_get (q := 115) (k := 4) (j := 5) (v := ax_i (σ.1 4 5)) dX11_count_112 rfl shC_4 rfl rfl rfl (by decide) fl_X11_157 ?_
    exact ax_iret dX11_count_115 rfl rfl (k5 c1 c2 c3 c4 c5)
  by_cases c6 : (a0 = (5 : Int32))
  · refine ax_tableIn (tgt := 116) (off := 115) dX11_count_1 (by rw [c6]; decide) (by rw [c6]; decide) (by rw [c6]; decide) (by decide) ?_
    refine ax_aload_n (q := 117) (i := 0) dX11_count_116 rfl rfl rfl ?_
    refine ax_get (q := 120) (k := 0) (j := 4) (v := ax_r 5) dX11_count_117 rfl shC_0 rfl rfl rfl (by decide) fl_X11_42 ?_
    refine ax_get (q := 123) (k := 5) (j := 14) (v := ax_i (σ.1 5 14)) dX11_count_120 rfl shC_5 rfl rfl rfl (by decide) fl_X11_224 ?_
    exact ax_iret dX11_count_123 rfl rfl (k6 c1 c2 c3 c4 c5 c6)
  by_cases c7 : (a0 = (6 : Int32))
  · refine ax_tableIn (tgt := 124) (off := 123) dX11_count_1 (by rw [c7]; decide) (by rw [c7]; decide) (by rw [c7]; decide) (by decide) ?_
    refine ax_aload_n (q := 125) (i := 0) dX11_count_124 rfl rfl rfl ?_
    refine ax_get (q := 128) (k := 0) (j := 4) (v := ax_r 5) dX11_count_125 rfl shC_0 rfl rfl rfl (by decide) fl_X11_42 ?_
    refine ax_get (q := 131) (k := 5) (j := 12) (v := ax_i (σ.1 5 12)) dX11_count_128 rfl shC_5 rfl rfl rfl (by decide) fl_X11_227 ?_
    exact ax_iret dX11_count_131 rfl rfl (k7 c1 c2 c3 c4 c5 c6 c7)
  by_cases c8 : (a0 = (7 : Int32))
  · refine ax_tableIn (tgt := 132) (off := 131) dX11_count_1 (by rw [c8]; decide) (by rw [c8]; decide) (by rw [c8]; decide) (by decide) ?_
    refine ax_aload_n (q := 133) (i := 0) dX11_count_132 rfl rfl rfl ?_
    refine ax_get (q := 136) (k := 0) (j := 4) (v := ax_r 5) dX11_count_133 rfl shC_0 rfl rfl rfl (by decide) fl_X11_42 ?_
    refine ax_get (q := 139) (k := 5) (j := 13) (v := ax_i (σ.1 5 13)) dX11_count_136 rfl shC_5 rfl rfl rfl (by decide) fl_X11_230 ?_
    exact ax_iret dX11_count_139 rfl rfl (k8 c1 c2 c3 c4 c5 c6 c7 c8)
  by_cases c9 : (a0 = (8 : Int32))
  · refine ax_tableIn (tgt := 140) (off := 139) dX11_count_1 (by rw [c9]; decide) (by rw [c9]; decide) (by rw [c9]; decide) (by decide) ?_
    refine ax_aload_n (q := 141) (i := 0) dX11_count_140 rfl rfl rfl ?_
    refine ax_get (q := 144) (k := 0) (j := 4) (v := ax_r 5) dX11_count_141 rfl shC_0 rfl rfl rfl (by decide) fl_X11_42 ?_
    refine ax_fg (lv2 := [none, none]) trivial ?_
    exact ax_callVci (q := 147) (As := []) (st := []) dX11_count_144 rfl lk_X11_185 shC_5 rfl rfl rfl rfl (Nat.le_of_ble_eq_true rfl) (k9 c1 c2 c3 c4 c5 c6 c7 c8 c9)
  by_cases c10 : (a0 = (9 : Int32))
  · refine ax_tableIn (tgt := 148) (off := 147) dX11_count_1 (by rw [c10]; decide) (by rw [c10]; decide) (by rw [c10]; decide) (by decide) ?_
    refine ax_aload_n (q := 149) (i := 0) dX11_count_148 rfl rfl rfl ?_
    refine ax_get (q := 152) (k := 0) (j := 14) (v := ax_i (σ.1 0 14)) dX11_count_149 rfl shC_0 rfl rfl rfl (by decide) fl_X11_99 ?_
    exact ax_iret dX11_count_152 rfl rfl (k10 c1 c2 c3 c4 c5 c6 c7 c8 c9 c10)
  by_cases c11 : (a0 = (10 : Int32))
  · refine ax_tableIn (tgt := 153) (off := 152) dX11_count_1 (by rw [c11]; decide) (by rw [c11]; decide) (by rw [c11]; decide) (by decide) ?_
    refine ax_aload_n (q := 154) (i := 0) dX11_count_153 rfl rfl rfl ?_
    refine ax_get (q := 157) (k := 0) (j := 15) (v := ax_i (σ.1 0 15)) dX11_count_154 rfl shC_0 rfl rfl rfl (by decide) fl_X11_233 ?_
    exact ax_iret dX11_count_157 rfl rfl (k11 c1 c2 c3 c4 c5 c6 c7 c8 c9 c10 c11)
  by_cases c12 : (a0 = (11 : Int32))
  · refine ax_tableIn (tgt := 158) (off := 157) dX11_count_1 (by rw [c12]; decide) (by rw [c12]; decide) (by rw [c12]; decide) (by decide) ?_
    refine ax_aload_n (q := 159) (i := 0) dX11_count_158 rfl rfl rfl ?_
    refine ax_get (q := 162) (k := 0) (j := 8) (v := ax_r 9) dX11_count_159 rfl shC_0 rfl rfl rfl (by decide) fl_X11_72 ?_
    refine ax_get (q := 165) (k := 9) (j := 4) (v := ax_i (σ.1 9 4)) dX11_count_162 rfl shC_9 rfl rfl rfl (by decide) fl_X11_146 ?_
    exact ax_iret dX11_count_165 rfl rfl (k12 c1 c2 c3 c4 c5 c6 c7 c8 c9 c10 c11 c12)
  by_cases c13 : (a0 = (12 : Int32))
  · refine ax_tableIn (tgt := 166) (off := 165) dX11_count_1 (by rw [c13]; decide) (by rw [c13]; decide) (by rw [c13]; decide) (by decide) ?_
    refine ax_aload_n (q := 167) (i := 0) dX11_count_166 rfl rfl rfl ?_
    refine ax_get (q := 170) (k := 0) (j := 16) (v := ax_i (σ.1 0 16)) dX11_count_167 rfl shC_0 rfl rfl rfl (by decide) fl_X11_151 ?_
    exact ax_iret dX11_count_170 rfl rfl (k13 c1 c2 c3 c4 c5 c6 c7 c8 c9 c10 c11 c12 c13)
  by_cases c14 : (a0 = (13 : Int32))
  · refine ax_tableIn (tgt := 171) (off := 170) dX11_count_1 (by rw [c14]; decide) (by rw [c14]; decide) (by rw [c14]; decide) (by decide) ?_
    refine ax_aload_n (q := 172) (i := 0) dX11_count_171 rfl rfl rfl ?_
    refine ax_get (q := 175) (k := 0) (j := 7) (v := ax_r 8) dX11_count_172 rfl shC_0 rfl rfl rfl (by decide) fl_X11_65 ?_
    refine ax_callVfi (q := 178) (As := []) (st := []) (x := (if (σ.1 8 2) < (60 : Int32) then (σ.1 8 2) else (60 : Int32))) (σ2 := σ) dX11_count_175 rfl lk_X11_236 shC_8 rfl rfl rfl rfl (Nat.le_of_ble_eq_true rfl) (f_X2_length σ   (d := d) (by omega)) ?_
    exact ax_iret dX11_count_178 rfl rfl (k14 c1 c2 c3 c4 c5 c6 c7 c8 c9 c10 c11 c12 c13 c14)
  by_cases c15 : (a0 = (14 : Int32))
  · refine ax_tableIn (tgt := 179) (off := 178) dX11_count_1 (by rw [c15]; decide) (by rw [c15]; decide) (by rw [c15]; decide) (by decide) ?_
    refine ax_aload_n (q := 180) (i := 0) dX11_count_179 rfl rfl rfl ?_
    refine ax_get (q := 183) (k := 0) (j := 6) (v := ax_r 7) dX11_count_180 rfl shC_0 rfl rfl rfl (by decide) fl_X11_58 ?_
    refine ax_get (q := 186) (k := 7) (j := 1) (v := ax_i (σ.1 7 1)) dX11_count_183 rfl shC_7 rfl rfl rfl (by decide) fl_X11_238 ?_
    exact ax_iret dX11_count_186 rfl rfl (k15 c1 c2 c3 c4 c5 c6 c7 c8 c9 c10 c11 c12 c13 c14 c15)
  · refine ax_tableOut (tgt := 187) dX11_count_1 (by have z0 := ax_net (k := 0) (0) (by decide) c1; have z1 := ax_net (k := 1) (1) (by decide) c2; have z2 := ax_net (k := 2) (2) (by decide) c3; have z3 := ax_net (k := 3) (3) (by decide) c4; have z4 := ax_net (k := 4) (4) (by decide) c5; have z5 := ax_net (k := 5) (5) (by decide) c6; have z6 := ax_net (k := 6) (6) (by decide) c7; have z7 := ax_net (k := 7) (7) (by decide) c8; have z8 := ax_net (k := 8) (8) (by decide) c9; have z9 := ax_net (k := 9) (9) (by decide) c10; have z10 := ax_net (k := 10) (10) (by decide) c11; have z11 := ax_net (k := 11) (11) (by decide) c12; have z12 := ax_net (k := 12) (12) (by decide) c13; have z13 := ax_net (k := 13) (13) (by decide) c14; have z14 := ax_net (k := 14) (14) (by decide) c15; omega) (by decide) ?_
    refine ax_ldc (q := 189) dX11_count_187 rfl kc_X11_241 ?_
    exact ax_iret dX11_count_189 rfl rfl (k16 c1 c2 c3 c4 c5 c6 c7 c8 c9 c10 c11 c12 c13 c14 c15)
set_option maxRecDepth 20000 in
theorem s_X11_count_147 {d : Nat} (hd : 0 ≤ d) {Q : Option ax_V → ax_S → Prop} (σ : ax_S) (rr : Int32) (k1 : Q (some (ax_i rr)) σ) : ax_W shC (d + 1) mX11_count Q 147 [none, none] [ax_i rr] σ := by
  exact ax_iret dX11_count_147 rfl rfl k1
set_option maxRecDepth 20000 in
theorem f_X11_isHouse (σ : ax_S) (a0 : Int32)  {d : Nat} (hd : 1 ≤ d) : ax_Ct shC d mX11_isHouse [ax_r 0, ax_i a0] (fun r u => r = some (ax_i (if ((¬ (a0 < 0)) ∧ (¬ ((σ.1 5 9) ≤ a0))) then (1 : Int32) else 0)) ∧ u = σ) σ := by
  obtain ⟨d, rfl⟩ : ∃ e, d = e + 1 := ⟨d - 1, by omega⟩
  refine ax_Ct.of (lv := [some (ax_r 0), some (ax_i a0)]) (by decide +kernel) (fun ad => Nat.le_of_ble_eq_true rfl) (fun ad => rfl) ?_
  refine ax_iload_n (q := 1) (i := 1) dX11_isHouse_0 rfl rfl rfl ?_
  have K3 : ax_W shC (d + 1) mX11_isHouse (fun r u => r = some (ax_i (if ((¬ (a0 < 0)) ∧ (¬ ((σ.1 5 9) ≤ a0))) then (1 : Int32) else 0)) ∧ u = σ) 20 [some (ax_r 0), some (ax_i a0)] [ax_i (if ((¬ (a0 < 0)) ∧ (¬ ((σ.1 5 9) ≤ a0))) then (1 : Int32) else 0)] σ := by
    exact ax_iret dX11_isHouse_20 rfl (ax_nb _) ⟨rfl, rfl⟩
  refine ax_if_lt (tgt := 19) (q := 4) dX11_isHouse_1 (by decide) rfl (fun c1 => ?_) (fun c1 => ?_)
  · refine ax_iconst (q := 20) dX11_isHouse_19 rfl ki_0 ?_
    exact ax_cv (if_neg (fun z => (fun y => y c1) z.1)) K3
  · refine ax_iload_n (q := 5) (i := 1) dX11_isHouse_4 rfl rfl rfl ?_
    refine ax_aload_n (q := 6) (i := 0) dX11_isHouse_5 rfl rfl rfl ?_
    refine ax_get (q := 9) (k := 0) (j := 4) (v := ax_r 5) dX11_isHouse_6 rfl shC_0 rfl rfl rfl (by decide) fl_X11_42 ?_
    refine ax_get (q := 12) (k := 5) (j := 9) (v := ax_i (σ.1 5 9)) dX11_isHouse_9 rfl shC_5 rfl rfl rfl (by decide) fl_X11_154 ?_
    refine ax_icmp_ge (tgt := 19) (q := 15) dX11_isHouse_12 (by decide) rfl (fun c2 => ?_) (fun c2 => ?_)
    · refine ax_iconst (q := 20) dX11_isHouse_19 rfl ki_0 ?_
      exact ax_cv (if_neg (fun z => (fun y => y c2) z.2)) K3
    · refine ax_iconst (q := 16) dX11_isHouse_15 rfl ki_1 ?_
      refine ax_goto (tgt := 20) dX11_isHouse_16 (by decide) ?_
      exact ax_cv (if_pos ⟨c1, c2⟩) K3
