set_option maxRecDepth 20000 in
theorem s_X12_townBut_0 {d : Nat} (hd : 0 ≤ d) {Q : Option ax_V → ax_S → Prop} (σ : ax_S) (a0 : Int32) (a1 : Int32) (k1 : ax_W shM (d + 1) mX12_townBut Q 7 [some (ax_r 0), none, some (ax_i a1), some (ax_i ((1 : Int32) <<< (a0 &&& 31))), some (ax_i (0 : Int32)), none] [] σ) : ax_W shM (d + 1) mX12_townBut Q 0 [some (ax_r 0), some (ax_i a0), some (ax_i a1), none, none, none] [] σ := by
  refine ax_iconst (q := 1) dX12_townBut_0 rfl ki_1 ?_
  refine ax_iload_n (q := 2) (i := 1) dX12_townBut_1 rfl rfl rfl ?_
  refine ax_ishl (q := 3) dX12_townBut_2 rfl ?_
  refine ax_istore_n (q := 4) (i := 3) (lv2 := [some (ax_r 0), some (ax_i a0), some (ax_i a1), some (ax_i ((1 : Int32) <<< (a0 &&& 31))), none, none]) dX12_townBut_3 rfl rfl (by decide) rfl rfl ?_
  refine ax_iconst (q := 5) dX12_townBut_4 rfl ki_0 ?_
  refine ax_istore (q := 7) (lv2 := [some (ax_r 0), some (ax_i a0), some (ax_i a1), some (ax_i ((1 : Int32) <<< (a0 &&& 31))), some (ax_i (0 : Int32)), none]) dX12_townBut_5 rfl (by decide) rfl rfl ?_
  refine ax_fg (lv2 := [some (ax_r 0), none, some (ax_i a1), some (ax_i ((1 : Int32) <<< (a0 &&& 31))), some (ax_i (0 : Int32)), none]) ⟨rfl, rfl, rfl, rfl, trivial⟩ ?_
  exact k1
set_option maxRecDepth 20000 in
theorem s_X12_townBut_7 {d : Nat} (hd : 0 ≤ d) {Q : Option ax_V → ax_S → Prop} (σ : ax_S) (x2 : Int32) (x3 : Int32) (x4 : Int32) (k1 : ((8 : Int32) ≤ x4) → Q (some (ax_i x3)) σ) (k2 : (¬ ((8 : Int32) ≤ x4)) → ax_W shM (d + 1) mX12_townBut Q 17 [some (ax_r 0), none, some (ax_i x2), some (ax_i x3), some (ax_i x4), some (ax_i (0 : Int32))] [] σ) : ax_W shM (d + 1) mX12_townBut Q 7 [some (ax_r 0), none, some (ax_i x2), some (ax_i x3), some (ax_i x4), none] [] σ := by
  refine ax_iload (q := 9) dX12_townBut_7 rfl rfl ?_
  refine ax_bipush (q := 11) dX12_townBut_9 rfl kb_8 ?_
  refine ax_icmp_ge (tgt := 106) (q := 14) dX12_townBut_11 (by decide) rfl (fun c1 => ?_) (fun c1 => ?_)
  · refine ax_iload_n (q := 107) (i := 3) dX12_townBut_106 rfl rfl rfl ?_
    exact ax_iret dX12_townBut_107 rfl rfl (k1 c1)
  · refine ax_iconst (q := 15) dX12_townBut_14 rfl ki_0 ?_
    refine ax_istore (q := 17) (lv2 := [some (ax_r 0), none, some (ax_i x2), some (ax_i x3), some (ax_i x4), some (ax_i (0 : Int32))]) dX12_townBut_15 rfl (by decide) rfl rfl ?_
    exact (k2 c1)
set_option maxRecDepth 20000 in
theorem s_X12_townBut_17 {d : Nat} (hd : 2 ≤ d) {Q : Option ax_V → ax_S → Prop} (σ : ax_S) (x2 : Int32) (x3 : Int32) (x4 : Int32) (x5 : Int32) (k1 : ((σ.1 15 84) ≤ x5) → ax_W shM (d + 1) mX12_townBut Q 7 [some (ax_r 0), none, some (ax_i x2), some (ax_i x3), some (ax_i (x4 + (1 : Int32))), none] [] σ) (k2 : (¬ ((σ.1 15 84) ≤ x5)) → (x5 = x2) → ax_W shM (d + 1) mX12_townBut Q 17 [some (ax_r 0), none, some (ax_i x2), some (ax_i x3), some (ax_i x4), some (ax_i (x5 + (1 : Int32)))] [] σ) (h3 : (¬ ((σ.1 15 84) ≤ x5)) → (¬ (x5 = x2)) → vp_in (((16 : Int32) + ((4 : Int32) * x5)) + (3 : Int32)) 268) (h4 : (¬ ((σ.1 15 84) ≤ x5)) → (¬ (x5 = x2)) → (¬ (¬ (σ.1 15 (Int32.toNatClampNeg (((16 : Int32) + ((4 : Int32) * x5)) + (3 : Int32)))) = 0)) → vp_in (((16 : Int32) + ((4 : Int32) * x5)) + (2 : Int32)) 268) (k5 : (¬ ((σ.1 15 84) ≤ x5)) → (¬ (x5 = x2)) → (¬ ((¬ (¬ (σ.1 15 (Int32.toNatClampNeg (((16 : Int32) + ((4 : Int32) * x5)) + (3 : Int32)))) = 0)) ∧ (¬ ((9 : Int32) ≤ (σ.1 15 (Int32.toNatClampNeg (((16 : Int32) + ((4 : Int32) * x5)) + (2 : Int32)))))))) → ax_W shM (d + 1) mX12_townBut Q 17 [some (ax_r 0), none, some (ax_i x2), some (ax_i x3), some (ax_i x4), some (ax_i (x5 + (1 : Int32)))] [] σ) (h6 : (¬ ((σ.1 15 84) ≤ x5)) → (¬ (x5 = x2)) → ((¬ (¬ (σ.1 15 (Int32.toNatClampNeg (((16 : Int32) + ((4 : Int32) * x5)) + (3 : Int32)))) = 0)) ∧ (¬ ((9 : Int32) ≤ (σ.1 15 (Int32.toNatClampNeg (((16 : Int32) + ((4 : Int32) * x5)) + (2 : Int32))))))) → vp_in (((16 : Int32) + ((4 : Int32) * x5)) + (0 : Int32)) 268) (h7 : (¬ ((σ.1 15 84) ≤ x5)) → (¬ (x5 = x2)) → ((¬ (¬ (σ.1 15 (Int32.toNatClampNeg (((16 : Int32) + ((4 : Int32) * x5)) + (3 : Int32)))) = 0)) ∧ (¬ ((9 : Int32) ≤ (σ.1 15 (Int32.toNatClampNeg (((16 : Int32) + ((4 : Int32) * x5)) + (2 : Int32))))))) → (¬ (¬ ((x3 >>> ((σ.1 15 (Int32.toNatClampNeg (((16 : Int32) + ((4 : Int32) * x5)) + (0 : Int32)))) &&& 31)) &&& (1 : Int32)) = (1 : Int32))) → vp_in (((16 : Int32) + ((4 : Int32) * x5)) + (0 : Int32)) 268) (h8 : (¬ ((σ.1 15 84) ≤ x5)) → (¬ (x5 = x2)) → ((¬ (¬ (σ.1 15 (Int32.toNatClampNeg (((16 : Int32) + ((4 : Int32) * x5)) + (3 : Int32)))) = 0)) ∧ (¬ ((9 : Int32) ≤ (σ.1 15 (Int32.toNatClampNeg (((16 : Int32) + ((4 : Int32) * x5)) + (2 : Int32))))))) → (¬ (¬ ((x3 >>> ((σ.1 15 (Int32.toNatClampNeg (((16 : Int32) + ((4 : Int32) * x5)) + (0 : Int32)))) &&& 31)) &&& (1 : Int32)) = (1 : Int32))) → vp_in (((16 : Int32) + ((4 : Int32) * x5)) + (1 : Int32)) 268) (k9 : (¬ ((σ.1 15 84) ≤ x5)) → (¬ (x5 = x2)) → ((¬ (¬ (σ.1 15 (Int32.toNatClampNeg (((16 : Int32) + ((4 : Int32) * x5)) + (3 : Int32)))) = 0)) ∧ (¬ ((9 : Int32) ≤ (σ.1 15 (Int32.toNatClampNeg (((16 : Int32) + ((4 : Int32) * x5)) + (2 : Int32))))))) → (¬ (¬ ((x3 >>> ((σ.1 15 (Int32.toNatClampNeg (((16 : Int32) + ((4 : Int32) * x5)) + (0 : Int32)))) &&& 31)) &&& (1 : Int32)) = (1 : Int32))) → ax_W shM (d + 1) mX12_townBut Q 17 [some (ax_r 0), none, some (ax_i x2), some (ax_i (x3 ||| (((1 : Int32) <<< ((σ.1 15 (Int32.toNatClampNeg (((16 : Int32) + ((4 : Int32) * x5)) + (0 : Int32)))) &&& 31)) ||| ((1 : Int32) <<< ((σ.1 15 (Int32.toNatClampNeg (((16 : Int32) + ((4 : Int32) * x5)) + (1 : Int32)))) &&& 31))))), some (ax_i x4), some (ax_i (x5 + (1 : Int32)))] [] σ) (h10 : (¬ ((σ.1 15 84) ≤ x5)) → (¬ (x5 = x2)) → ((¬ (¬ (σ.1 15 (Int32.toNatClampNeg (((16 : Int32) + ((4 : Int32) * x5)) + (3 : Int32)))) = 0)) ∧ (¬ ((9 : Int32) ≤ (σ.1 15 (Int32.toNatClampNeg (((16 : Int32) + ((4 : Int32) * x5)) + (2 : Int32))))))) → (¬ (¬ (¬ ((x3 >>> ((σ.1 15 (Int32.toNatClampNeg (((16 : Int32) + ((4 : Int32) * x5)) + (0 : Int32)))) &&& 31)) &&& (1 : Int32)) = (1 : Int32)))) → vp_in (((16 : Int32) + ((4 : Int32) * x5)) + (1 : Int32)) 268) (k11 : (¬ ((σ.1 15 84) ≤ x5)) → (¬ (x5 = x2)) → ((¬ (¬ (σ.1 15 (Int32.toNatClampNeg (((16 : Int32) + ((4 : Int32) * x5)) + (3 : Int32)))) = 0)) ∧ (¬ ((9 : Int32) ≤ (σ.1 15 (Int32.toNatClampNeg (((16 : Int32) + ((4 : Int32) * x5)) + (2 : Int32))))))) → (¬ (¬ (¬ ((x3 >>> ((σ.1 15 (Int32.toNatClampNeg (((16 : Int32) + ((4 : Int32) * x5)) + (0 : Int32)))) &&& 31)) &&& (1 : Int32)) = (1 : Int32)))) → (¬ (¬ (¬ ((x3 >>> ((σ.1 15 (Int32.toNatClampNeg (((16 : Int32) + ((4 : Int32) * x5)) + (1 : Int32)))) &&& 31)) &&& (1 : Int32)) = (1 : Int32)))) → ax_W shM (d + 1) mX12_townBut Q 17 [some (ax_r 0), none, some (ax_i x2), some (ax_i x3), some (ax_i x4), some (ax_i (x5 + (1 : Int32)))] [] σ) (h12 : (¬ ((σ.1 15 84) ≤ x5)) → (¬ (x5 = x2)) → ((¬ (¬ (σ.1 15 (Int32.toNatClampNeg (((16 : Int32) + ((4 : Int32) * x5)) + (3 : Int32)))) = 0)) ∧ (¬ ((9 : Int32) ≤ (σ.1 15 (Int32.toNatClampNeg (((16 : Int32) + ((4 : Int32) * x5)) + (2 : Int32))))))) → (¬ (¬ (¬ ((x3 >>> ((σ.1 15 (Int32.toNatClampNeg (((16 : Int32) + ((4 : Int32) * x5)) + (0 : Int32)))) &&& 31)) &&& (1 : Int32)) = (1 : Int32)))) → (¬ (¬ ((x3 >>> ((σ.1 15 (Int32.toNatClampNeg (((16 : Int32) + ((4 : Int32) * x5)) + (1 : Int32)))) &&& 31)) &&& (1 : Int32)) = (1 : Int32))) → vp_in (((16 : Int32) + ((4 : Int32) * x5)) + (0 : Int32)) 268) (h13 : (¬ ((σ.1 15 84) ≤ x5)) → (¬ (x5 = x2)) → ((¬ (¬ (σ.1 15 (Int32.toNatClampNeg (((16 : Int32) + ((4 : Int32) * x5)) + (3 : Int32)))) = 0)) ∧ (¬ ((9 : Int32) ≤ (σ.1 15 (Int32.toNatClampNeg (((16 : Int32) + ((4 : Int32) * x5)) + (2 : Int32))))))) → (¬ (¬ (¬ ((x3 >>> ((σ.1 15 (Int32.toNatClampNeg (((16 : Int32) + ((4 : Int32) * x5)) + (0 : Int32)))) &&& 31)) &&& (1 : Int32)) = (1 : Int32)))) → (¬ (¬ ((x3 >>> ((σ.1 15 (Int32.toNatClampNeg (((16 : Int32) + ((4 : Int32) * x5)) + (1 : Int32)))) &&& 31)) &&& (1 : Int32)) = (1 : Int32))) → vp_in (((16 : Int32) + ((4 : Int32) * x5)) + (1 : Int32)) 268) (k14 : (¬ ((σ.1 15 84) ≤ x5)) → (¬ (x5 = x2)) → ((¬ (¬ (σ.1 15 (Int32.toNatClampNeg (((16 : Int32) + ((4 : Int32) * x5)) + (3 : Int32)))) = 0)) ∧ (¬ ((9 : Int32) ≤ (σ.1 15 (Int32.toNatClampNeg (((16 : Int32) + ((4 : Int32) * x5)) + (2 : Int32))))))) → (¬ (¬ (¬ ((x3 >>> ((σ.1 15 (Int32.toNatClampNeg (((16 : Int32) + ((4 : Int32) * x5)) + (0 : Int32)))) &&& 31)) &&& (1 : Int32)) = (1 : Int32)))) → (¬ (¬ ((x3 >>> ((σ.1 15 (Int32.toNatClampNeg (((16 : Int32) + ((4 : Int32) * x5)) + (1 : Int32)))) &&& 31)) &&& (1 : Int32)) = (1 : Int32))) → ax_W shM (d + 1) mX12_townBut Q 17 [some (ax_r 0), none, some (ax_i x2), some (ax_i (x3 ||| (((1 : Int32) <<< ((σ.1 15 (Int32.toNatClampNeg (((16 : Int32) + ((4 : Int32) * x5)) + (0 : Int32)))) &&& 31)) ||| ((1 : Int32) <<< ((σ.1 15 (Int32.toNatClampNeg (((16 : Int32) + ((4 : Int32) * x5)) + (1 : Int32)))) &&& 31))))), some (ax_i x4), some (ax_i (x5 + (1 : Int32)))] [] σ) : ax_W shM (d + 1) mX12_townBut Q 17 [some (ax_r 0), none, some (ax_i x2), some (ax_i x3), some (ax_i x4), some (ax_i x5)] [] σ := by
  refine ax_iload (q := 19) dX12_townBut_17 rfl rfl ?_
  refine ax_aload_n (q := 20) (i := 0) dX12_townBut_19 rfl rfl rfl ?_
  refine ax_get (q := 23) (k := 0) (j := 25) (v := ax_r 15) dX12_townBut_20 rfl shM_0 rfl rfl rfl (by decide) fl_X12_52 ?_
  refine ax_bipush (q := 25) dX12_townBut_23 rfl kb_84 ?_
  refine ax_iald (q := 26) (a := 84) (v := (σ.1 15 84)) dX12_townBut_25 rfl shM_15 (ax_inl 84 268 (by decide) (by decide)) rfl rfl ?_
  refine ax_icmp_ge (tgt := 100) (q := 29) dX12_townBut_26 (by decide) rfl (fun c1 => ?_) (fun c1 => ?_)
  · refine ax_iincK (q := 103) (lv2 := [some (ax_r 0), none, some (ax_i x2), some (ax_i x3), some (ax_i (x4 + (1 : Int32))), some (ax_i x5)]) dX12_townBut_100 rfl rfl ki_1 (by decide) rfl rfl ?_
    refine ax_goto (tgt := 7) dX12_townBut_103 (by decide) ?_
    refine ax_fg (lv2 := [some (ax_r 0), none, some (ax_i x2), some (ax_i x3), some (ax_i (x4 + (1 : Int32))), none]) ⟨rfl, rfl, rfl, rfl, trivial⟩ ?_
    exact (k1 c1)
  · refine ax_iload (q := 31) dX12_townBut_29 rfl rfl ?_
    refine ax_iload_n (q := 32) (i := 2) dX12_townBut_31 rfl rfl rfl ?_
    refine ax_icmp_eq (tgt := 94) (q := 35) dX12_townBut_32 (by decide) rfl (fun c2 => ?_) (fun c2 => ?_)
    · refine ax_iincK (q := 97) (lv2 := [some (ax_r 0), none, some (ax_i x2), some (ax_i x3), some (ax_i x4), some (ax_i (x5 + (1 : Int32)))]) dX12_townBut_94 rfl rfl ki_1 (by decide) rfl rfl ?_
      refine ax_goto (tgt := 17) dX12_townBut_97 (by decide) ?_
      exact (k2 c1 c2)
    · refine ax_aload_n (q := 36) (i := 0) dX12_townBut_35 rfl rfl rfl ?_
      refine ax_iload (q := 38) dX12_townBut_36 rfl rfl ?_
      refine ax_callVfi (q := 41) (As := [ax_i x5]) (st := []) (x := (if ((¬ (¬ (σ.1 15 (Int32.toNatClampNeg (((16 : Int32) + ((4 : Int32) * x5)) + (3 : Int32)))) = 0)) ∧ (¬ ((9 : Int32) ≤ (σ.1 15 (Int32.toNatClampNeg (((16 : Int32) + ((4 : Int32) * x5)) + (2 : Int32))))))) then (1 : Int32) else 0)) (σ2 := σ) dX12_townBut_38 rfl lk_X12_312 shM_0 rfl rfl rfl rfl (Nat.le_of_ble_eq_true rfl) (f_X12_isLive σ x5 (h3 c1 c2) (h4 c1 c2) (d := d) (by omega)) ?_
      refine ax_if_eqB (tgt := 94) (q := 44) dX12_townBut_41 (by decide) rfl (fun c3 => ?_) (fun c3 => ?_)
      · refine ax_iincK (q := 97) (lv2 := [some (ax_r 0), none, some (ax_i x2), some (ax_i x3), some (ax_i x4), some (ax_i (x5 + (1 : Int32)))]) dX12_townBut_94 rfl rfl ki_1 (by decide) rfl rfl ?_
        refine ax_goto (tgt := 17) dX12_townBut_97 (by decide) ?_
        exact (k5 c1 c2 c3)
      · refine ax_iload_n (q := 45) (i := 3) dX12_townBut_44 rfl rfl rfl ?_
        refine ax_aload_n (q := 46) (i := 0) dX12_townBut_45 rfl rfl rfl ?_
        refine ax_iload (q := 48) dX12_townBut_46 rfl rfl ?_
        refine ax_iconst (q := 49) dX12_townBut_48 rfl ki_0 ?_
        refine ax_callVfi (q := 52) (As := [ax_i x5, ax_i (0 : Int32)]) (st := [ax_i x3]) (x := (σ.1 15 (Int32.toNatClampNeg (((16 : Int32) + ((4 : Int32) * x5)) + (0 : Int32))))) (σ2 := σ) dX12_townBut_49 rfl lk_X12_306 shM_0 rfl rfl rfl rfl (Nat.le_of_ble_eq_true rfl) (f_X12_ofWire σ x5 (0 : Int32) (h6 c1 c2 c3) (d := d) (by omega)) ?_
        refine ax_callSfi (q := 55) (As := [ax_i x3, ax_i (σ.1 15 (Int32.toNatClampNeg (((16 : Int32) + ((4 : Int32) * x5)) + (0 : Int32))))]) (st := []) (x := (if (¬ (¬ ((x3 >>> ((σ.1 15 (Int32.toNatClampNeg (((16 : Int32) + ((4 : Int32) * x5)) + (0 : Int32)))) &&& 31)) &&& (1 : Int32)) = (1 : Int32))) then (1 : Int32) else 0)) (σ2 := σ) dX12_townBut_52 rfl lk_X12_234 rfl rfl (Nat.le_of_ble_eq_true rfl) (f_X12_has (sh := shM) σ x3 (σ.1 15 (Int32.toNatClampNeg (((16 : Int32) + ((4 : Int32) * x5)) + (0 : Int32))))  (d := d) (by omega)) ?_
        refine ax_if_neB (tgt := 72) (q := 58) dX12_townBut_55 (by decide) rfl (fun c4 => ?_) (fun c4 => ?_)
        · refine ax_iload_n (q := 73) (i := 3) dX12_townBut_72 rfl rfl rfl ?_
          refine ax_iconst (q := 74) dX12_townBut_73 rfl ki_1 ?_
          refine ax_aload_n (q := 75) (i := 0) dX12_townBut_74 rfl rfl rfl ?_
          refine ax_iload (q := 77) dX12_townBut_75 rfl rfl ?_
          refine ax_iconst (q := 78) dX12_townBut_77 rfl ki_0 ?_
          refine ax_callVfi (q := 81) (As := [ax_i x5, ax_i (0 : Int32)]) (st := [ax_i (1 : Int32), ax_i x3]) (x := (σ.1 15 (Int32.toNatClampNeg (((16 : Int32) + ((4 : Int32) * x5)) + (0 : Int32))))) (σ2 := σ) dX12_townBut_78 rfl lk_X12_306 shM_0 rfl rfl rfl rfl (Nat.le_of_ble_eq_true rfl) (f_X12_ofWire σ x5 (0 : Int32) (h7 c1 c2 c3 c4) (d := d) (by omega)) ?_
          refine ax_ishl (q := 82) dX12_townBut_81 rfl ?_
          refine ax_iconst (q := 83) dX12_townBut_82 rfl ki_1 ?_
          refine ax_aload_n (q := 84) (i := 0) dX12_townBut_83 rfl rfl rfl ?_
          refine ax_iload (q := 86) dX12_townBut_84 rfl rfl ?_
          refine ax_iconst (q := 87) dX12_townBut_86 rfl ki_1 ?_
          refine ax_callVfi (q := 90) (As := [ax_i x5, ax_i (1 : Int32)]) (st := [ax_i (1 : Int32), ax_i ((1 : Int32) <<< ((σ.1 15 (Int32.toNatClampNeg (((16 : Int32) + ((4 : Int32) * x5)) + (0 : Int32)))) &&& 31)), ax_i x3]) (x := (σ.1 15 (Int32.toNatClampNeg (((16 : Int32) + ((4 : Int32) * x5)) + (1 : Int32))))) (σ2 := σ) dX12_townBut_87 rfl lk_X12_306 shM_0 rfl rfl rfl rfl (Nat.le_of_ble_eq_true rfl) (f_X12_ofWire σ x5 (1 : Int32) (h8 c1 c2 c3 c4) (d := d) (by omega)) ?_
          refine ax_ishl (q := 91) dX12_townBut_90 rfl ?_
          refine ax_ior (q := 92) dX12_townBut_91 rfl ?_
          refine ax_ior (q := 93) dX12_townBut_92 rfl ?_
          refine ax_istore_n (q := 94) (i := 3) (lv2 := [some (ax_r 0), none, some (ax_i x2), some (ax_i (x3 ||| (((1 : Int32) <<< ((σ.1 15 (Int32.toNatClampNeg (((16 : Int32) + ((4 : Int32) * x5)) + (0 : Int32)))) &&& 31)) ||| ((1 : Int32) <<< ((σ.1 15 (Int32.toNatClampNeg (((16 : Int32) + ((4 : Int32) * x5)) + (1 : Int32)))) &&& 31))))), some (ax_i x4), some (ax_i x5)]) dX12_townBut_93 rfl rfl (by decide) rfl rfl ?_
          refine ax_iincK (q := 97) (lv2 := [some (ax_r 0), none, some (ax_i x2), some (ax_i (x3 ||| (((1 : Int32) <<< ((σ.1 15 (Int32.toNatClampNeg (((16 : Int32) + ((4 : Int32) * x5)) + (0 : Int32)))) &&& 31)) ||| ((1 : Int32) <<< ((σ.1 15 (Int32.toNatClampNeg (((16 : Int32) + ((4 : Int32) * x5)) + (1 : Int32)))) &&& 31))))), some (ax_i x4), some (ax_i (x5 + (1 : Int32)))]) dX12_townBut_94 rfl rfl ki_1 (by decide) rfl rfl ?_
          refine ax_goto (tgt := 17) dX12_townBut_97 (by decide) ?_
          exact (k9 c1 c2 c3 c4)
        · refine ax_iload_n (q := 59) (i := 3) dX12_townBut_58 rfl rfl rfl ?_
          refine ax_aload_n (q := 60) (i := 0) dX12_townBut_59 rfl rfl rfl ?_
          refine ax_iload (q := 62) dX12_townBut_60 rfl rfl ?_
          refine ax_iconst (q := 63) dX12_townBut_62 rfl ki_1 ?_
          refine ax_callVfi (q := 66) (As := [ax_i x5, ax_i (1 : Int32)]) (st := [ax_i x3]) (x := (σ.1 15 (Int32.toNatClampNeg (((16 : Int32) + ((4 : Int32) * x5)) + (1 : Int32))))) (σ2 := σ) dX12_townBut_63 rfl lk_X12_306 shM_0 rfl rfl rfl rfl (Nat.le_of_ble_eq_true rfl) (f_X12_ofWire σ x5 (1 : Int32) (h10 c1 c2 c3 c4) (d := d) (by omega)) ?_
          refine ax_callSfi (q := 69) (As := [ax_i x3, ax_i (σ.1 15 (Int32.toNatClampNeg (((16 : Int32) + ((4 : Int32) * x5)) + (1 : Int32))))]) (st := []) (x := (if (¬ (¬ ((x3 >>> ((σ.1 15 (Int32.toNatClampNeg (((16 : Int32) + ((4 : Int32) * x5)) + (1 : Int32)))) &&& 31)) &&& (1 : Int32)) = (1 : Int32))) then (1 : Int32) else 0)) (σ2 := σ) dX12_townBut_66 rfl lk_X12_234 rfl rfl (Nat.le_of_ble_eq_true rfl) (f_X12_has (sh := shM) σ x3 (σ.1 15 (Int32.toNatClampNeg (((16 : Int32) + ((4 : Int32) * x5)) + (1 : Int32))))  (d := d) (by omega)) ?_
          refine ax_if_eqB (tgt := 94) (q := 72) dX12_townBut_69 (by decide) rfl (fun c5 => ?_) (fun c5 => ?_)
          · refine ax_iincK (q := 97) (lv2 := [some (ax_r 0), none, some (ax_i x2), some (ax_i x3), some (ax_i x4), some (ax_i (x5 + (1 : Int32)))]) dX12_townBut_94 rfl rfl ki_1 (by decide) rfl rfl ?_
            refine ax_goto (tgt := 17) dX12_townBut_97 (by decide) ?_
            exact (k11 c1 c2 c3 c4 c5)
          · refine ax_iload_n (q := 73) (i := 3) dX12_townBut_72 rfl rfl rfl ?_
            refine ax_iconst (q := 74) dX12_townBut_73 rfl ki_1 ?_
            refine ax_aload_n (q := 75) (i := 0) dX12_townBut_74 rfl rfl rfl ?_
            refine ax_iload (q := 77) dX12_townBut_75 rfl rfl ?_
            refine ax_iconst (q := 78) dX12_townBut_77 rfl ki_0 ?_
            refine ax_callVfi (q := 81) (As := [ax_i x5, ax_i (0 : Int32)]) (st := [ax_i (1 : Int32), ax_i x3]) (x := (σ.1 15 (Int32.toNatClampNeg (((16 : Int32) + ((4 : Int32) * x5)) + (0 : Int32))))) (σ2 := σ) dX12_townBut_78 rfl lk_X12_306 shM_0 rfl rfl rfl rfl (Nat.le_of_ble_eq_true rfl) (f_X12_ofWire σ x5 (0 : Int32) (h12 c1 c2 c3 c4 c5) (d := d) (by omega)) ?_
            refine ax_ishl (q := 82) dX12_townBut_81 rfl ?_
            refine ax_iconst (q := 83) dX12_townBut_82 rfl ki_1 ?_
            refine ax_aload_n (q := 84) (i := 0) dX12_townBut_83 rfl rfl rfl ?_
            refine ax_iload (q := 86) dX12_townBut_84 rfl rfl ?_
            refine ax_iconst (q := 87) dX12_townBut_86 rfl ki_1 ?_
            refine ax_callVfi (q := 90) (As := [ax_i x5, ax_i (1 : Int32)]) (st := [ax_i (1 : Int32), ax_i ((1 : Int32) <<< ((σ.1 15 (Int32.toNatClampNeg (((16 : Int32) + ((4 : Int32) * x5)) + (0 : Int32)))) &&& 31)), ax_i x3]) (x := (σ.1 15 (Int32.toNatClampNeg (((16 : Int32) + ((4 : Int32) * x5)) + (1 : Int32))))) (σ2 := σ) dX12_townBut_87 rfl lk_X12_306 shM_0 rfl rfl rfl rfl (Nat.le_of_ble_eq_true rfl) (f_X12_ofWire σ x5 (1 : Int32) (h13 c1 c2 c3 c4 c5) (d := d) (by omega)) ?_
            refine ax_ishl (q := 91) dX12_townBut_90 rfl ?_
            refine ax_ior (q := 92) dX12_townBut_91 rfl ?_
            refine ax_ior (q := 93) dX12_townBut_92 rfl ?_
            refine ax_istore_n (q := 94) (i := 3) (lv2 := [some (ax_r 0), none, some (ax_i x2), some (ax_i (x3 ||| (((1 : Int32) <<< ((σ.1 15 (Int32.toNatClampNeg (((16 : Int32) + ((4 : Int32) * x5)) + (0 : Int32)))) &&& 31)) ||| ((1 : Int32) <<< ((σ.1 15 (Int32.toNatClampNeg (((16 : Int32) + ((4 : Int32) * x5)) + (1 : Int32)))) &&& 31))))), some (ax_i x4), some (ax_i x5)]) dX12_townBut_93 rfl rfl (by decide) rfl rfl ?_
            refine ax_iincK (q := 97) (lv2 := [some (ax_r 0), none, some (ax_i x2), some (ax_i (x3 ||| (((1 : Int32) <<< ((σ.1 15 (Int32.toNatClampNeg (((16 : Int32) + ((4 : Int32) * x5)) + (0 : Int32)))) &&& 31)) ||| ((1 : Int32) <<< ((σ.1 15 (Int32.toNatClampNeg (((16 : Int32) + ((4 : Int32) * x5)) + (1 : Int32)))) &&& 31))))), some (ax_i x4), some (ax_i (x5 + (1 : Int32)))]) dX12_townBut_94 rfl rfl ki_1 (by decide) rfl rfl ?_
            refine ax_goto (tgt := 17) dX12_townBut_97 (by decide) ?_
            exact (k14 c1 c2 c3 c4 c5)
set_option maxRecDepth 20000 in
theorem s_X12_town_0 {d : Nat} (hd : 2 ≤ d) {Q : Option ax_V → ax_S → Prop} (σ : ax_S) (a0 : Int32) (k1 : (¬ ((¬ (a0 < (0 : Int32))) ∧ (¬ (((σ.1 0 23) - (1 : Int32)) < a0)))) → Q (some (ax_i (-1 : Int32))) σ) (k2 : ((¬ (a0 < (0 : Int32))) ∧ (¬ (((σ.1 0 23) - (1 : Int32)) < a0))) → ax_Ct shM d mX12_townBut [ax_r 0, ax_i a0, ax_i (-1 : Int32)] (fun r u => ∃ x : Int32, r = some (ax_i x) ∧ ax_W shM (d + 1) mX12_town Q 14 [none, none] (ax_i x :: []) u) σ) : ax_W shM (d + 1) mX12_town Q 0 [some (ax_r 0), some (ax_i a0)] [] σ := by
  refine ax_aload_n (q := 1) (i := 0) dX12_town_0 rfl rfl rfl ?_
  refine ax_iload_n (q := 2) (i := 1) dX12_town_1 rfl rfl rfl ?_
  refine ax_callVfi (q := 5) (As := [ax_i a0]) (st := []) (x := (if ((¬ (a0 < (0 : Int32))) ∧ (¬ (((σ.1 0 23) - (1 : Int32)) < a0))) then (1 : Int32) else 0)) (σ2 := σ) dX12_town_2 rfl lk_X12_342 shM_0 rfl rfl rfl rfl (Nat.le_of_ble_eq_true rfl) (f_X12_isHouse σ a0  (d := d) (by omega)) ?_
  refine ax_if_eqB (tgt := 17) (q := 8) dX12_town_5 (by decide) rfl (fun c1 => ?_) (fun c1 => ?_)
  · refine ax_iconst (q := 18) dX12_town_17 rfl ki_m1 ?_
    exact ax_iret dX12_town_18 rfl rfl (k1 c1)
  · refine ax_aload_n (q := 9) (i := 0) dX12_town_8 rfl rfl rfl ?_
    refine ax_iload_n (q := 10) (i := 1) dX12_town_9 rfl rfl rfl ?_
    refine ax_iconst (q := 11) dX12_town_10 rfl ki_m1 ?_
    refine ax_fg (lv2 := [none, none]) trivial ?_
    exact ax_callVci (q := 14) (As := [ax_i a0, ax_i (-1 : Int32)]) (st := []) dX12_town_11 rfl lk_X12_437 shM_0 rfl rfl rfl rfl (Nat.le_of_ble_eq_true rfl) (k2 c1)
set_option maxRecDepth 20000 in
theorem s_X12_town_14 {d : Nat} (hd : 0 ≤ d) {Q : Option ax_V → ax_S → Prop} (σ : ax_S) (rr : Int32) (k1 : Q (some (ax_i rr)) σ) : ax_W shM (d + 1) mX12_town Q 14 [none, none] [ax_i rr] σ := by
  refine ax_goto (tgt := 18) dX12_town_14 (by decide) ?_
  exact ax_iret dX12_town_18 rfl rfl k1
set_option maxRecDepth 20000 in
theorem s_J6_numberOfTrailingZeros_0f7a4_0 {d : Nat} (hd : 0 ≤ d) {Q : Option ax_V → ax_S → Prop} (σ : ax_S) (a0 : Int32) (k1 : (0 < ((a0 ^^^ (-1 : Int32)) &&& (a0 - (1 : Int32)))) → (((a0 ^^^ (-1 : Int32)) &&& (a0 - (1 : Int32))) ≤ (65536 : Int32)) → (((a0 ^^^ (-1 : Int32)) &&& (a0 - (1 : Int32))) ≤ (256 : Int32)) → (((a0 ^^^ (-1 : Int32)) &&& (a0 - (1 : Int32))) ≤ (16 : Int32)) → (((a0 ^^^ (-1 : Int32)) &&& (a0 - (1 : Int32))) ≤ (4 : Int32)) → Q (some (ax_i ((1 : Int32) + (((((a0 ^^^ (-1 : Int32)) &&& (a0 - (1 : Int32)))).toUInt32 >>> (((1 : Int32)).toUInt32 &&& Int32.toUInt32 31)).toInt32)))) σ) (k2 : (0 < ((a0 ^^^ (-1 : Int32)) &&& (a0 - (1 : Int32)))) → (((a0 ^^^ (-1 : Int32)) &&& (a0 - (1 : Int32))) ≤ (65536 : Int32)) → (((a0 ^^^ (-1 : Int32)) &&& (a0 - (1 : Int32))) ≤ (256 : Int32)) → (((a0 ^^^ (-1 : Int32)) &&& (a0 - (1 : Int32))) ≤ (16 : Int32)) → (¬ (((a0 ^^^ (-1 : Int32)) &&& (a0 - (1 : Int32))) ≤ (4 : Int32))) → Q (some (ax_i (((1 : Int32) + (2 : Int32)) + ((((((((a0 ^^^ (-1 : Int32)) &&& (a0 - (1 : Int32)))).toUInt32 >>> (((2 : Int32)).toUInt32 &&& Int32.toUInt32 31)).toInt32)).toUInt32 >>> (((1 : Int32)).toUInt32 &&& Int32.toUInt32 31)).toInt32)))) σ) (k3 : (0 < ((a0 ^^^ (-1 : Int32)) &&& (a0 - (1 : Int32)))) → (((a0 ^^^ (-1 : Int32)) &&& (a0 - (1 : Int32))) ≤ (65536 : Int32)) → (((a0 ^^^ (-1 : Int32)) &&& (a0 - (1 : Int32))) ≤ (256 : Int32)) → (¬ (((a0 ^^^ (-1 : Int32)) &&& (a0 - (1 : Int32))) ≤ (16 : Int32))) → ((((((a0 ^^^ (-1 : Int32)) &&& (a0 - (1 : Int32)))).toUInt32 >>> (((4 : Int32)).toUInt32 &&& Int32.toUInt32 31)).toInt32) ≤ (4 : Int32)) → Q (some (ax_i (((1 : Int32) + (4 : Int32)) + ((((((((a0 ^^^ (-1 : Int32)) &&& (a0 - (1 : Int32)))).toUInt32 >>> (((4 : Int32)).toUInt32 &&& Int32.toUInt32 31)).toInt32)).toUInt32 >>> (((1 : Int32)).toUInt32 &&& Int32.toUInt32 31)).toInt32)))) σ) (k4 : (0 < ((a0 ^^^ (-1 : Int32)) &&& (a0 - (1 : Int32)))) → (((a0 ^^^ (-1 : Int32)) &&& (a0 - (1 : Int32))) ≤ (65536 : Int32)) → (((a0 ^^^ (-1 : Int32)) &&& (a0 - (1 : Int32))) ≤ (256 : Int32)) → (¬ (((a0 ^^^ (-1 : Int32)) &&& (a0 - (1 : Int32))) ≤ (16 : Int32))) → (¬ ((((((a0 ^^^ (-1 : Int32)) &&& (a0 - (1 : Int32)))).toUInt32 >>> (((4 : Int32)).toUInt32 &&& Int32.toUInt32 31)).toInt32) ≤ (4 : Int32))) → Q (some (ax_i ((((1 : Int32) + (4 : Int32)) + (2 : Int32)) + (((((((((((a0 ^^^ (-1 : Int32)) &&& (a0 - (1 : Int32)))).toUInt32 >>> (((4 : Int32)).toUInt32 &&& Int32.toUInt32 31)).toInt32)).toUInt32 >>> (((2 : Int32)).toUInt32 &&& Int32.toUInt32 31)).toInt32)).toUInt32 >>> (((1 : Int32)).toUInt32 &&& Int32.toUInt32 31)).toInt32)))) σ) (k5 : (0 < ((a0 ^^^ (-1 : Int32)) &&& (a0 - (1 : Int32)))) → (((a0 ^^^ (-1 : Int32)) &&& (a0 - (1 : Int32))) ≤ (65536 : Int32)) → (¬ (((a0 ^^^ (-1 : Int32)) &&& (a0 - (1 : Int32))) ≤ (256 : Int32))) → ((((((a0 ^^^ (-1 : Int32)) &&& (a0 - (1 : Int32)))).toUInt32 >>> (((8 : Int32)).toUInt32 &&& Int32.toUInt32 31)).toInt32) ≤ (16 : Int32)) → ((((((a0 ^^^ (-1 : Int32)) &&& (a0 - (1 : Int32)))).toUInt32 >>> (((8 : Int32)).toUInt32 &&& Int32.toUInt32 31)).toInt32) ≤ (4 : Int32)) → Q (some (ax_i (((1 : Int32) + (8 : Int32)) + ((((((((a0 ^^^ (-1 : Int32)) &&& (a0 - (1 : Int32)))).toUInt32 >>> (((8 : Int32)).toUInt32 &&& Int32.toUInt32 31)).toInt32)).toUInt32 >>> (((1 : Int32)).toUInt32 &&& Int32.toUInt32 31)).toInt32)))) σ) (k6 : (0 < ((a0 ^^^ (-1 : Int32)) &&& (a0 - (1 : Int32)))) → (((a0 ^^^ (-1 : Int32)) &&& (a0 - (1 : Int32))) ≤ (65536 : Int32)) → (¬ (((a0 ^^^ (-1 : Int32)) &&& (a0 - (1 : Int32))) ≤ (256 : Int32))) → ((((((a0 ^^^ (-1 : Int32)) &&& (a0 - (1 : Int32)))).toUInt32 >>> (((8 : Int32)).toUInt32 &&& Int32.toUInt32 31)).toInt32) ≤ (16 : Int32)) → (¬ ((((((a0 ^^^ (-1 : Int32)) &&& (a0 - (1 : Int32)))).toUInt32 >>> (((8 : Int32)).toUInt32 &&& Int32.toUInt32 31)).toInt32) ≤ (4 : Int32))) → Q (some (ax_i ((((1 : Int32) + (8 : Int32)) + (2 : Int32)) + (((((((((((a0 ^^^ (-1 : Int32)) &&& (a0 - (1 : Int32)))).toUInt32 >>> (((8 : Int32)).toUInt32 &&& Int32.toUInt32 31)).toInt32)).toUInt32 >>> (((2 : Int32)).toUInt32 &&& Int32.toUInt32 31)).toInt32)).toUInt32 >>> (((1 : Int32)).toUInt32 &&& Int32.toUInt32 31)).toInt32)))) σ) (k7 : (0 < ((a0 ^^^ (-1 : Int32)) &&& (a0 - (1 : Int32)))) → (((a0 ^^^ (-1 : Int32)) &&& (a0 - (1 : Int32))) ≤ (65536 : Int32)) → (¬ (((a0 ^^^ (-1 : Int32)) &&& (a0 - (1 : Int32))) ≤ (256 : Int32))) → (¬ ((((((a0 ^^^ (-1 : Int32)) &&& (a0 - (1 : Int32)))).toUInt32 >>> (((8 : Int32)).toUInt32 &&& Int32.toUInt32 31)).toInt32) ≤ (16 : Int32))) → (((((((((a0 ^^^ (-1 : Int32)) &&& (a0 - (1 : Int32)))).toUInt32 >>> (((8 : Int32)).toUInt32 &&& Int32.toUInt32 31)).toInt32)).toUInt32 >>> (((4 : Int32)).toUInt32 &&& Int32.toUInt32 31)).toInt32) ≤ (4 : Int32)) → Q (some (ax_i ((((1 : Int32) + (8 : Int32)) + (4 : Int32)) + (((((((((((a0 ^^^ (-1 : Int32)) &&& (a0 - (1 : Int32)))).toUInt32 >>> (((8 : Int32)).toUInt32 &&& Int32.toUInt32 31)).toInt32)).toUInt32 >>> (((4 : Int32)).toUInt32 &&& Int32.toUInt32 31)).toInt32)).toUInt32 >>> (((1 : Int32)).toUInt32 &&& Int32.toUInt32 31)).toInt32)))) σ) (k8 : (0 < ((a0 ^^^ (-1 : Int32)) &&& (a0 - (1 : Int32)))) → (((a0 ^^^ (-1 : Int32)) &&& (a0 - (1 : Int32))) ≤ (65536 : Int32)) → (¬ (((a0 ^^^ (-1 : Int32)) &&& (a0 - (1 : Int32))) ≤ (256 : Int32))) → (¬ ((((((a0 ^^^ (-1 : Int32)) &&& (a0 - (1 : Int32)))).toUInt32 >>> (((8 : Int32)).toUInt32 &&& Int32.toUInt32 31)).toInt32) ≤ (16 : Int32))) → (¬ (((((((((a0 ^^^ (-1 : Int32)) &&& (a0 - (1 : Int32)))).toUInt32 >>> (((8 : Int32)).toUInt32 &&& Int32.toUInt32 31)).toInt32)).toUInt32 >>> (((4 : Int32)).toUInt32 &&& Int32.toUInt32 31)).toInt32) ≤ (4 : Int32))) → Q (some (ax_i (((((1 : Int32) + (8 : Int32)) + (4 : Int32)) + (2 : Int32)) + ((((((((((((((a0 ^^^ (-1 : Int32)) &&& (a0 - (1 : Int32)))).toUInt32 >>> (((8 : Int32)).toUInt32 &&& Int32.toUInt32 31)).toInt32)).toUInt32 >>> (((4 : Int32)).toUInt32 &&& Int32.toUInt32 31)).toInt32)).toUInt32 >>> (((2 : Int32)).toUInt32 &&& Int32.toUInt32 31)).toInt32)).toUInt32 >>> (((1 : Int32)).toUInt32 &&& Int32.toUInt32 31)).toInt32)))) σ) (k9 : (0 < ((a0 ^^^ (-1 : Int32)) &&& (a0 - (1 : Int32)))) → (¬ (((a0 ^^^ (-1 : Int32)) &&& (a0 - (1 : Int32))) ≤ (65536 : Int32))) → ((((((a0 ^^^ (-1 : Int32)) &&& (a0 - (1 : Int32)))).toUInt32 >>> (((16 : Int32)).toUInt32 &&& Int32.toUInt32 31)).toInt32) ≤ (256 : Int32)) → ((((((a0 ^^^ (-1 : Int32)) &&& (a0 - (1 : Int32)))).toUInt32 >>> (((16 : Int32)).toUInt32 &&& Int32.toUInt32 31)).toInt32) ≤ (16 : Int32)) → ((((((a0 ^^^ (-1 : Int32)) &&& (a0 - (1 : Int32)))).toUInt32 >>> (((16 : Int32)).toUInt32 &&& Int32.toUInt32 31)).toInt32) ≤ (4 : Int32)) → Q (some (ax_i (((1 : Int32) + (16 : Int32)) + ((((((((a0 ^^^ (-1 : Int32)) &&& (a0 - (1 : Int32)))).toUInt32 >>> (((16 : Int32)).toUInt32 &&& Int32.toUInt32 31)).toInt32)).toUInt32 >>> (((1 : Int32)).toUInt32 &&& Int32.toUInt32 31)).toInt32)))) σ) (k10 : (0 < ((a0 ^^^ (-1 : Int32)) &&& (a0 - (1 : Int32)))) → (¬ (((a0 ^^^ (-1 : Int32)) &&& (a0 - (1 : Int32))) ≤ (65536 : Int32))) → ((((((a0 ^^^ (-1 : Int32)) &&& (a0 - (1 : Int32)))).toUInt32 >>> (((16 : Int32)).toUInt32 &&& Int32.toUInt32 31)).toInt32) ≤ (256 : Int32)) → ((((((a0 ^^^ (-1 : Int32)) &&& (a0 - (1 : Int32)))).toUInt32 >>> (((16 : Int32)).toUInt32 &&& Int32.toUInt32 31)).toInt32) ≤ (16 : Int32)) → (¬ ((((((a0 ^^^ (-1 : Int32)) &&& (a0 - (1 : Int32)))).toUInt32 >>> (((16 : Int32)).toUInt32 &&& Int32.toUInt32 31)).toInt32) ≤ (4 : Int32))) → Q (some (ax_i ((((1 : Int32) + (16 : Int32)) + (2 : Int32)) + (((((((((((a0 ^^^ (-1 : Int32)) &&& (a0 - (1 : Int32)))).toUInt32 >>> (((16 : Int32)).toUInt32 &&& Int32.toUInt32 31)).toInt32)).toUInt32 >>> (((2 : Int32)).toUInt32 &&& Int32.toUInt32 31)).toInt32)).toUInt32 >>> (((1 : Int32)).toUInt32 &&& Int32.toUInt32 31)).toInt32)))) σ) (k11 : (0 < ((a0 ^^^ (-1 : Int32)) &&& (a0 - (1 : Int32)))) → (¬ (((a0 ^^^ (-1 : Int32)) &&& (a0 - (1 : Int32))) ≤ (65536 : Int32))) → ((((((a0 ^^^ (-1 : Int32)) &&& (a0 - (1 : Int32)))).toUInt32 >>> (((16 : Int32)).toUInt32 &&& Int32.toUInt32 31)).toInt32) ≤ (256 : Int32)) → (¬ ((((((a0 ^^^ (-1 : Int32)) &&& (a0 - (1 : Int32)))).toUInt32 >>> (((16 : Int32)).toUInt32 &&& Int32.toUInt32 31)).toInt32) ≤ (16 : Int32))) → (((((((((a0 ^^^ (-1 : Int32)) &&& (a0 - (1 : Int32)))).toUInt32 >>> (((16 : Int32)).toUInt32 &&& Int32.toUInt32 31)).toInt32)).toUInt32 >>> (((4 : Int32)).toUInt32 &&& Int32.toUInt32 31)).toInt32) ≤ (4 : Int32)) → Q (some (ax_i ((((1 : Int32) + (16 : Int32)) + (4 : Int32)) + (((((((((((a0 ^^^ (-1 : Int32)) &&& (a0 - (1 : Int32)))).toUInt32 >>> (((16 : Int32)).toUInt32 &&& Int32.toUInt32 31)).toInt32)).toUInt32 >>> (((4 : Int32)).toUInt32 &&& Int32.toUInt32 31)).toInt32)).toUInt32 >>> (((1 : Int32)).toUInt32 &&& Int32.toUInt32 31)).toInt32)))) σ) (k12 : (0 < ((a0 ^^^ (-1 : Int32)) &&& (a0 - (1 : Int32)))) → (¬ (((a0 ^^^ (-1 : Int32)) &&& (a0 - (1 : Int32))) ≤ (65536 : Int32))) → ((((((a0 ^^^ (-1 : Int32)) &&& (a0 - (1 : Int32)))).toUInt32 >>> (((16 : Int32)).toUInt32 &&& Int32.toUInt32 31)).toInt32) ≤ (256 : Int32)) → (¬ ((((((a0 ^^^ (-1 : Int32)) &&& (a0 - (1 : Int32)))).toUInt32 >>> (((16 : Int32)).toUInt32 &&& Int32.toUInt32 31)).toInt32) ≤ (16 : Int32))) → (¬ (((((((((a0 ^^^ (-1 : Int32)) &&& (a0 - (1 : Int32)))).toUInt32 >>> (((16 : Int32)).toUInt32 &&& Int32.toUInt32 31)).toInt32)).toUInt32 >>> (((4 : Int32)).toUInt32 &&& Int32.toUInt32 31)).toInt32) ≤ (4 : Int32))) → Q (some (ax_i (((((1 : Int32) + (16 : Int32)) + (4 : Int32)) + (2 : Int32)) + ((((((((((((((a0 ^^^ (-1 : Int32)) &&& (a0 - (1 : Int32)))).toUInt32 >>> (((16 : Int32)).toUInt32 &&& Int32.toUInt32 31)).toInt32)).toUInt32 >>> (((4 : Int32)).toUInt32 &&& Int32.toUInt32 31)).toInt32)).toUInt32 >>> (((2 : Int32)).toUInt32 &&& Int32.toUInt32 31)).toInt32)).toUInt32 >>> (((1 : Int32)).toUInt32 &&& Int32.toUInt32 31)).toInt32)))) σ) (k13 : (0 < ((a0 ^^^ (-1 : Int32)) &&& (a0 - (1 : Int32)))) → (¬ (((a0 ^^^ (-1 : Int32)) &&& (a0 - (1 : Int32))) ≤ (65536 : Int32))) → (¬ ((((((a0 ^^^ (-1 : Int32)) &&& (a0 - (1 : Int32)))).toUInt32 >>> (((16 : Int32)).toUInt32 &&& Int32.toUInt32 31)).toInt32) ≤ (256 : Int32))) → (((((((((a0 ^^^ (-1 : Int32)) &&& (a0 - (1 : Int32)))).toUInt32 >>> (((16 : Int32)).toUInt32 &&& Int32.toUInt32 31)).toInt32)).toUInt32 >>> (((8 : Int32)).toUInt32 &&& Int32.toUInt32 31)).toInt32) ≤ (16 : Int32)) → (((((((((a0 ^^^ (-1 : Int32)) &&& (a0 - (1 : Int32)))).toUInt32 >>> (((16 : Int32)).toUInt32 &&& Int32.toUInt32 31)).toInt32)).toUInt32 >>> (((8 : Int32)).toUInt32 &&& Int32.toUInt32 31)).toInt32) ≤ (4 : Int32)) → Q (some (ax_i ((((1 : Int32) + (16 : Int32)) + (8 : Int32)) + (((((((((((a0 ^^^ (-1 : Int32)) &&& (a0 - (1 : Int32)))).toUInt32 >>> (((16 : Int32)).toUInt32 &&& Int32.toUInt32 31)).toInt32)).toUInt32 >>> (((8 : Int32)).toUInt32 &&& Int32.toUInt32 31)).toInt32)).toUInt32 >>> (((1 : Int32)).toUInt32 &&& Int32.toUInt32 31)).toInt32)))) σ) (k14 : (0 < ((a0 ^^^ (-1 : Int32)) &&& (a0 - (1 : Int32)))) → (¬ (((a0 ^^^ (-1 : Int32)) &&& (a0 - (1 : Int32))) ≤ (65536 : Int32))) → (¬ ((((((a0 ^^^ (-1 : Int32)) &&& (a0 - (1 : Int32)))).toUInt32 >>> (((16 : Int32)).toUInt32 &&& Int32.toUInt32 31)).toInt32) ≤ (256 : Int32))) → (((((((((a0 ^^^ (-1 : Int32)) &&& (a0 - (1 : Int32)))).toUInt32 >>> (((16 : Int32)).toUInt32 &&& Int32.toUInt32 31)).toInt32)).toUInt32 >>> (((8 : Int32)).toUInt32 &&& Int32.toUInt32 31)).toInt32) ≤ (16 : Int32)) → (¬ (((((((((a0 ^^^ (-1 : Int32)) &&& (a0 - (1 : Int32)))).toUInt32 >>> (((16 : Int32)).toUInt32 &&& Int32.toUInt32 31)).toInt32)).toUInt32 >>> (((8 : Int32)).toUInt32 &&& Int32.toUInt32 31)).toInt32) ≤ (4 : Int32))) → Q (some (ax_i (((((1 : Int32) + (16 : Int32)) + (8 : Int32)) + (2 : Int32)) + ((((((((((((((a0 ^^^ (-1 : Int32)) &&& (a0 - (1 : Int32)))).toUInt32 >>> (((16 : Int32)).toUInt32 &&& Int32.toUInt32 31)).toInt32)).toUInt32 >>> (((8 : Int32)).toUInt32 &&& Int32.toUInt32 31)).toInt32)).toUInt32 >>> (((2 : Int32)).toUInt32 &&& Int32.toUInt32 31)).toInt32)).toUInt32 >>> (((1 : Int32)).toUInt32 &&& Int32.toUInt32 31)).toInt32)))) σ) (k15 : (0 < ((a0 ^^^ (-1 : Int32)) &&& (a0 - (1 : Int32)))) → (¬ (((a0 ^^^ (-1 : Int32)) &&& (a0 - (1 : Int32))) ≤ (65536 : Int32))) → (¬ ((((((a0 ^^^ (-1 : Int32)) &&& (a0 - (1 : Int32)))).toUInt32 >>> (((16 : Int32)).toUInt32 &&& Int32.toUInt32 31)).toInt32) ≤ (256 : Int32))) → (¬ (((((((((a0 ^^^ (-1 : Int32)) &&& (a0 - (1 : Int32)))).toUInt32 >>> (((16 : Int32)).toUInt32 &&& Int32.toUInt32 31)).toInt32)).toUInt32 >>> (((8 : Int32)).toUInt32 &&& Int32.toUInt32 31)).toInt32) ≤ (16 : Int32))) → ((((((((((((a0 ^^^ (-1 : Int32)) &&& (a0 - (1 : Int32)))).toUInt32 >>> (((16 : Int32)).toUInt32 &&& Int32.toUInt32 31)).toInt32)).toUInt32 >>> (((8 : Int32)).toUInt32 &&& Int32.toUInt32 31)).toInt32)).toUInt32 >>> (((4 : Int32)).toUInt32 &&& Int32.toUInt32 31)).toInt32) ≤ (4 : Int32)) → Q (some (ax_i (((((1 : Int32) + (16 : Int32)) + (8 : Int32)) + (4 : Int32)) + ((((((((((((((a0 ^^^ (-1 : Int32)) &&& (a0 - (1 : Int32)))).toUInt32 >>> (((16 : Int32)).toUInt32 &&& Int32.toUInt32 31)).toInt32)).toUInt32 >>> (((8 : Int32)).toUInt32 &&& Int32.toUInt32 31)).toInt32)).toUInt32 >>> (((4 : Int32)).toUInt32 &&& Int32.toUInt32 31)).toInt32)).toUInt32 >>> (((1 : Int32)).toUInt32 &&& Int32.toUInt32 31)).toInt32)))) σ) (k16 : (0 < ((a0 ^^^ (-1 : Int32)) &&& (a0 - (1 : Int32)))) → (¬ (((a0 ^^^ (-1 : Int32)) &&& (a0 - (1 : Int32))) ≤ (65536 : Int32))) → (¬ ((((((a0 ^^^ (-1 : Int32)) &&& (a0 - (1 : Int32)))).toUInt32 >>> (((16 : Int32)).toUInt32 &&& Int32.toUInt32 31)).toInt32) ≤ (256 : Int32))) → (¬ (((((((((a0 ^^^ (-1 : Int32)) &&& (a0 - (1 : Int32)))).toUInt32 >>> (((16 : Int32)).toUInt32 &&& Int32.toUInt32 31)).toInt32)).toUInt32 >>> (((8 : Int32)).toUInt32 &&& Int32.toUInt32 31)).toInt32) ≤ (16 : Int32))) → (¬ ((((((((((((a0 ^^^ (-1 : Int32)) &&& (a0 - (1 : Int32)))).toUInt32 >>> (((16 : Int32)).toUInt32 &&& Int32.toUInt32 31)).toInt32)).toUInt32 >>> (((8 : Int32)).toUInt32 &&& Int32.toUInt32 31)).toInt32)).toUInt32 >>> (((4 : Int32)).toUInt32 &&& Int32.toUInt32 31)).toInt32) ≤ (4 : Int32))) → Q (some (ax_i ((((((1 : Int32) + (16 : Int32)) + (8 : Int32)) + (4 : Int32)) + (2 : Int32)) + (((((((((((((((((a0 ^^^ (-1 : Int32)) &&& (a0 - (1 : Int32)))).toUInt32 >>> (((16 : Int32)).toUInt32 &&& Int32.toUInt32 31)).toInt32)).toUInt32 >>> (((8 : Int32)).toUInt32 &&& Int32.toUInt32 31)).toInt32)).toUInt32 >>> (((4 : Int32)).toUInt32 &&& Int32.toUInt32 31)).toInt32)).toUInt32 >>> (((2 : Int32)).toUInt32 &&& Int32.toUInt32 31)).toInt32)).toUInt32 >>> (((1 : Int32)).toUInt32 &&& Int32.toUInt32 31)).toInt32)))) σ) (k17 : (¬ (0 < ((a0 ^^^ (-1 : Int32)) &&& (a0 - (1 : Int32))))) → Q (some (ax_i (((a0 ^^^ (-1 : Int32)) &&& (a0 - (1 : Int32))) &&& (32 : Int32)))) σ) : ax_W shC (d + 1) mJ6_numberOfTrailingZeros_0f7a4 Q 0 [some (ax_i a0), none] [] σ := by
  refine ax_iload_n (q := 1) (i := 0) dJ6_numberOfTrailingZeros_0f7a4_0 rfl rfl rfl ?_
  refine ax_iconst (q := 2) dJ6_numberOfTrailingZeros_0f7a4_1 rfl ki_m1 ?_
  refine ax_ixor (q := 3) dJ6_numberOfTrailingZeros_0f7a4_2 rfl ?_
  refine ax_iload_n (q := 4) (i := 0) dJ6_numberOfTrailingZeros_0f7a4_3 rfl rfl rfl ?_
  refine ax_iconst (q := 5) dJ6_numberOfTrailingZeros_0f7a4_4 rfl ki_1 ?_
  refine ax_isub (q := 6) dJ6_numberOfTrailingZeros_0f7a4_5 rfl ?_
  refine ax_iand (q := 7) dJ6_numberOfTrailingZeros_0f7a4_6 rfl ?_
  refine ax_istore_n (q := 8) (i := 0) (lv2 := [some (ax_i ((a0 ^^^ (-1 : Int32)) &&& (a0 - (1 : Int32)))), none]) dJ6_numberOfTrailingZeros_0f7a4_7 rfl rfl (by decide) rfl rfl ?_
  refine ax_iload_n (q := 9) (i := 0) dJ6_numberOfTrailingZeros_0f7a4_8 rfl rfl rfl ?_
  refine ax_if_gt (tgt := 17) (q := 12) dJ6_numberOfTrailingZeros_0f7a4_9 (by decide) rfl (fun c1 => ?_) (fun c1 => ?_)
  · refine ax_iconst (q := 18) dJ6_numberOfTrailingZeros_0f7a4_17 rfl ki_1 ?_
    refine ax_istore_n (q := 19) (i := 1) (lv2 := [some (ax_i ((a0 ^^^ (-1 : Int32)) &&& (a0 - (1 : Int32)))), some (ax_i (1 : Int32))]) dJ6_numberOfTrailingZeros_0f7a4_18 rfl rfl (by decide) rfl rfl ?_
    refine ax_iload_n (q := 20) (i := 0) dJ6_numberOfTrailingZeros_0f7a4_19 rfl rfl rfl ?_
    refine ax_ldcw (q := 23) dJ6_numberOfTrailingZeros_0f7a4_20 rfl kc_J6_264 ?_
    refine ax_icmp_le (tgt := 34) (q := 26) dJ6_numberOfTrailingZeros_0f7a4_23 (by decide) rfl (fun c2 => ?_) (fun c2 => ?_)
    · refine ax_iload_n (q := 35) (i := 0) dJ6_numberOfTrailingZeros_0f7a4_34 rfl rfl rfl ?_
      refine ax_sipush (q := 38) dJ6_numberOfTrailingZeros_0f7a4_35 rfl ks_256 ?_
      refine ax_icmp_le (tgt := 49) (q := 41) dJ6_numberOfTrailingZeros_0f7a4_38 (by decide) rfl (fun c3 => ?_) (fun c3 => ?_)
      · refine ax_iload_n (q := 50) (i := 0) dJ6_numberOfTrailingZeros_0f7a4_49 rfl rfl rfl ?_
        refine ax_bipush (q := 52) dJ6_numberOfTrailingZeros_0f7a4_50 rfl kb_16 ?_
        refine ax_icmp_le (tgt := 62) (q := 55) dJ6_numberOfTrailingZeros_0f7a4_52 (by decide) rfl (fun c4 => ?_) (fun c4 => ?_)
        · refine ax_iload_n (q := 63) (i := 0) dJ6_numberOfTrailingZeros_0f7a4_62 rfl rfl rfl ?_
          refine ax_iconst (q := 64) dJ6_numberOfTrailingZeros_0f7a4_63 rfl ki_4 ?_
          refine ax_icmp_le (tgt := 74) (q := 67) dJ6_numberOfTrailingZeros_0f7a4_64 (by decide) rfl (fun c5 => ?_) (fun c5 => ?_)
          · refine ax_iload_n (q := 75) (i := 1) dJ6_numberOfTrailingZeros_0f7a4_74 rfl rfl rfl ?_
            refine ax_iload_n (q := 76) (i := 0) dJ6_numberOfTrailingZeros_0f7a4_75 rfl rfl rfl ?_
            refine ax_iconst (q := 77) dJ6_numberOfTrailingZeros_0f7a4_76 rfl ki_1 ?_
            refine ax_iushr (q := 78) dJ6_numberOfTrailingZeros_0f7a4_77 rfl ?_
            refine ax_iadd (q := 79) dJ6_numberOfTrailingZeros_0f7a4_78 rfl ?_
            exact ax_iret dJ6_numberOfTrailingZeros_0f7a4_79 rfl rfl (k1 c1 c2 c3 c4 c5)
          · refine ax_iincK (q := 70) (lv2 := [some (ax_i ((a0 ^^^ (-1 : Int32)) &&& (a0 - (1 : Int32)))), some (ax_i ((1 : Int32) + (2 : Int32)))]) dJ6_numberOfTrailingZeros_0f7a4_67 rfl rfl ki_2 (by decide) rfl rfl ?_
            refine ax_iload_n (q := 71) (i := 0) dJ6_numberOfTrailingZeros_0f7a4_70 rfl rfl rfl ?_
            refine ax_iconst (q := 72) dJ6_numberOfTrailingZeros_0f7a4_71 rfl ki_2 ?_
            refine ax_iushr (q := 73) dJ6_numberOfTrailingZeros_0f7a4_72 rfl ?_
            refine ax_istore_n (q := 74) (i := 0) (lv2 := [some (ax_i (((((a0 ^^^ (-1 : Int32)) &&& (a0 - (1 : Int32)))).toUInt32 >>> (((2 : Int32)).toUInt32 &&& Int32.toUInt32 31)).toInt32)), some (ax_i ((1 : Int32) + (2 : Int32)))]) dJ6_numberOfTrailingZeros_0f7a4_73 rfl rfl (by decide) rfl rfl ?_
            refine ax_iload_n (q := 75) (i := 1) dJ6_numberOfTrailingZeros_0f7a4_74 rfl rfl rfl ?_
            refine ax_iload_n (q := 76) (i := 0) dJ6_numberOfTrailingZeros_0f7a4_75 rfl rfl rfl ?_
            refine ax_iconst (q := 77) dJ6_numberOfTrailingZeros_0f7a4_76 rfl ki_1 ?_
            refine ax_iushr (q := 78) dJ6_numberOfTrailingZeros_0f7a4_77 rfl ?_
            refine ax_iadd (q := 79) dJ6_numberOfTrailingZeros_0f7a4_78 rfl ?_
            exact ax_iret dJ6_numberOfTrailingZeros_0f7a4_79 rfl rfl (k2 c1 c2 c3 c4 c5)
        · refine ax_iincK (q := 58) (lv2 := [some (ax_i ((a0 ^^^ (-1 : Int32)) &&& (a0 - (1 : Int32)))), some (ax_i ((1 : Int32) + (4 : Int32)))]) dJ6_numberOfTrailingZeros_0f7a4_55 rfl rfl ki_4 (by decide) rfl rfl ?_
          refine ax_iload_n (q := 59) (i := 0) dJ6_numberOfTrailingZeros_0f7a4_58 rfl rfl rfl ?_
          refine ax_iconst (q := 60) dJ6_numberOfTrailingZeros_0f7a4_59 rfl ki_4 ?_
          refine ax_iushr (q := 61) dJ6_numberOfTrailingZeros_0f7a4_60 rfl ?_
          refine ax_istore_n (q := 62) (i := 0) (lv2 := [some (ax_i (((((a0 ^^^ (-1 : Int32)) &&& (a0 - (1 : Int32)))).toUInt32 >>> (((4 : Int32)).toUInt32 &&& Int32.toUInt32 31)).toInt32)), some (ax_i ((1 : Int32) + (4 : Int32)))]) dJ6_numberOfTrailingZeros_0f7a4_61 rfl rfl (by decide) rfl rfl ?_
          refine ax_iload_n (q := 63) (i := 0) dJ6_numberOfTrailingZeros_0f7a4_62 rfl rfl rfl ?_
          refine ax_iconst (q := 64) dJ6_numberOfTrailingZeros_0f7a4_63 rfl ki_4 ?_
          refine ax_icmp_le (tgt := 74) (q := 67) dJ6_numberOfTrailingZeros_0f7a4_64 (by decide) rfl (fun c6 => ?_) (fun c6 => ?_)
          · refine ax_iload_n (q := 75) (i := 1) dJ6_numberOfTrailingZeros_0f7a4_74 rfl rfl rfl ?_
            refine ax_iload_n (q := 76) (i := 0) dJ6_numberOfTrailingZeros_0f7a4_75 rfl rfl rfl ?_
            refine ax_iconst (q := 77) dJ6_numberOfTrailingZeros_0f7a4_76 rfl ki_1 ?_
            refine ax_iushr (q := 78) dJ6_numberOfTrailingZeros_0f7a4_77 rfl ?_
            refine ax_iadd (q := 79) dJ6_numberOfTrailingZeros_0f7a4_78 rfl ?_
            exact ax_iret dJ6_numberOfTrailingZeros_0f7a4_79 rfl rfl (k3 c1 c2 c3 c4 c6)
          · refine ax_iincK (q := 70) (lv2 := [some (ax_i (((((a0 ^^^ (-1 : Int32)) &&& (a0 - (1 : Int32)))).toUInt32 >>> (((4 : Int32)).toUInt32 &&& Int32.toUInt32 31)).toInt32)), some (ax_i (((1 : Int32) + (4 : Int32)) + (2 : Int32)))]) dJ6_numberOfTrailingZeros_0f7a4_67 rfl rfl ki_2 (by decide) rfl rfl ?_
            refine ax_iload_n (q := 71) (i := 0) dJ6_numberOfTrailingZeros_0f7a4_70 rfl rfl rfl ?_
            refine ax_iconst (q := 72) dJ6_numberOfTrailingZeros_0f7a4_71 rfl ki_2 ?_
            refine ax_iushr (q := 73) dJ6_numberOfTrailingZeros_0f7a4_72 rfl ?_
            refine ax_istore_n (q := 74) (i := 0) (lv2 := [some (ax_i ((((((((a0 ^^^ (-1 : Int32)) &&& (a0 - (1 : Int32)))).toUInt32 >>> (((4 : Int32)).toUInt32 &&& Int32.toUInt32 31)).toInt32)).toUInt32 >>> (((2 : Int32)).toUInt32 &&& Int32.toUInt32 31)).toInt32)), some (ax_i (((1 : Int32) + (4 : Int32)) + (2 : Int32)))]) dJ6_numberOfTrailingZeros_0f7a4_73 rfl rfl (by decide) rfl rfl ?_
            refine ax_iload_n (q := 75) (i := 1) dJ6_numberOfTrailingZeros_0f7a4_74 rfl rfl rfl ?_
            refine ax_iload_n (q := 76) (i := 0) dJ6_numberOfTrailingZeros_0f7a4_75 rfl rfl rfl ?_
            refine ax_iconst (q := 77) dJ6_numberOfTrailingZeros_0f7a4_76 rfl ki_1 ?_
            refine ax_iushr (q := 78) dJ6_numberOfTrailingZeros_0f7a4_77 rfl ?_
            refine ax_iadd (q := 79) dJ6_numberOfTrailingZeros_0f7a4_78 rfl ?_
            exact ax_iret dJ6_numberOfTrailingZeros_0f7a4_79 rfl rfl (k4 c1 c2 c3 c4 c6)
      · refine ax_iincK (q := 44) (lv2 := [some (ax_i ((a0 ^^^ (-1 : Int32)) &&& (a0 - (1 : Int32)))), some (ax_i ((1 : Int32) + (8 : Int32)))]) dJ6_numberOfTrailingZeros_0f7a4_41 rfl rfl ki_8 (by decide) rfl rfl ?_
        refine ax_iload_n (q := 45) (i := 0) dJ6_numberOfTrailingZeros_0f7a4_44 rfl rfl rfl ?_
        refine ax_bipush (q := 47) dJ6_numberOfTrailingZeros_0f7a4_45 rfl kb_8 ?_
        refine ax_iushr (q := 48) dJ6_numberOfTrailingZeros_0f7a4_47 rfl ?_
        refine ax_istore_n (q := 49) (i := 0) (lv2 := [some (ax_i (((((a0 ^^^ (-1 : Int32)) &&& (a0 - (1 : Int32)))).toUInt32 >>> (((8 : Int32)).toUInt32 &&& Int32.toUInt32 31)).toInt32)), some (ax_i ((1 : Int32) + (8 : Int32)))]) dJ6_numberOfTrailingZeros_0f7a4_48 rfl rfl (by decide) rfl rfl ?_
        refine ax_iload_n (q := 50) (i := 0) dJ6_numberOfTrailingZeros_0f7a4_49 rfl rfl rfl ?_
        refine ax_bipush (q := 52) dJ6_numberOfTrailingZeros_0f7a4_50 rfl kb_16 ?_
        refine ax_icmp_le (tgt := 62) (q := 55) dJ6_numberOfTrailingZeros_0f7a4_52 (by decide) rfl (fun c7 => ?_) (fun c7 => ?_)
        · refine ax_iload_n (q := 63) (i := 0) dJ6_numberOfTrailingZeros_0f7a4_62 rfl rfl rfl ?_
          refine ax_iconst (q := 64) dJ6_numberOfTrailingZeros_0f7a4_63 rfl ki_4 ?_
          refine ax_icmp_le (tgt := 74) (q := 67) dJ6_numberOfTrailingZeros_0f7a4_64 (by decide) rfl (fun c8 => ?_) (fun c8 => ?_)
          · refine ax_iload_n (q := 75) (i := 1) dJ6_numberOfTrailingZeros_0f7a4_74 rfl rfl rfl ?_
            refine ax_iload_n (q := 76) (i := 0) dJ6_numberOfTrailingZeros_0f7a4_75 rfl rfl rfl ?_
            refine ax_iconst (q := 77) dJ6_numberOfTrailingZeros_0f7a4_76 rfl ki_1 ?_
            refine ax_iushr (q := 78) dJ6_numberOfTrailingZeros_0f7a4_77 rfl ?_
            refine ax_iadd (q := 79) dJ6_numberOfTrailingZeros_0f7a4_78 rfl ?_
            exact ax_iret dJ6_numberOfTrailingZeros_0f7a4_79 rfl rfl (k5 c1 c2 c3 c7 c8)
          · refine ax_iincK (q := 70) (lv2 := [some (ax_i (((((a0 ^^^ (-1 : Int32)) &&& (a0 - (1 : Int32)))).toUInt32 >>> (((8 : Int32)).toUInt32 &&& Int32.toUInt32 31)).toInt32)), some (ax_i (((1 : Int32) + (8 : Int32)) + (2 : Int32)))]) dJ6_numberOfTrailingZeros_0f7a4_67 rfl rfl ki_2 (by decide) rfl rfl ?_
            refine ax_iload_n (q := 71) (i := 0) dJ6_numberOfTrailingZeros_0f7a4_70 rfl rfl rfl ?_
            refine ax_iconst (q := 72) dJ6_numberOfTrailingZeros_0f7a4_71 rfl ki_2 ?_
            refine ax_iushr (q := 73) dJ6_numberOfTrailingZeros_0f7a4_72 rfl ?_
            refine ax_istore_n (q := 74) (i := 0) (lv2 := [some (ax_i ((((((((a0 ^^^ (-1 : Int32)) &&& (a0 - (1 : Int32)))).toUInt32 >>> (((8 : Int32)).toUInt32 &&& Int32.toUInt32 31)).toInt32)).toUInt32 >>> (((2 : Int32)).toUInt32 &&& Int32.toUInt32 31)).toInt32)), some (ax_i (((1 : Int32) + (8 : Int32)) + (2 : Int32)))]) dJ6_numberOfTrailingZeros_0f7a4_73 rfl rfl (by decide) rfl rfl ?_
            refine ax_iload_n (q := 75) (i := 1) dJ6_numberOfTrailingZeros_0f7a4_74 rfl rfl rfl ?_
            refine ax_iload_n (q := 76) (i := 0) dJ6_numberOfTrailingZeros_0f7a4_75 rfl rfl rfl ?_
            refine ax_iconst (q := 77) dJ6_numberOfTrailingZeros_0f7a4_76 rfl ki_1 ?_
            refine ax_iushr (q := 78) dJ6_numberOfTrailingZeros_0f7a4_77 rfl ?_
            refine ax_iadd (q := 79) dJ6_numberOfTrailingZeros_0f7a4_78 rfl ?_
            exact ax_iret dJ6_numberOfTrailingZeros_0f7a4_79 rfl rfl (k6 c1 c2 c3 c7 c8)
        · refine ax_iincK (q := 58) (lv2 := [some (ax_i (((((a0 ^^^ (-1 : Int32)) &&& (a0 - (1 : Int32)))).toUInt32 >>> (((8 : Int32)).toUInt32 &&& Int32.toUInt32 31)).toInt32)), some (ax_i (((1 : Int32) + (8 : Int32)) + (4 : Int32)))]) dJ6_numberOfTrailingZeros_0f7a4_55 rfl rfl ki_4 (by decide) rfl rfl ?_
          refine ax_iload_n (q := 59) (i := 0) dJ6_numberOfTrailingZeros_0f7a4_58 rfl rfl rfl ?_
          refine ax_iconst (q := 60) dJ6_numberOfTrailingZeros_0f7a4_59 rfl ki_4 ?_
          refine ax_iushr (q := 61) dJ6_numberOfTrailingZeros_0f7a4_60 rfl ?_
          refine ax_istore_n (q := 62) (i := 0) (lv2 := [some (ax_i ((((((((a0 ^^^ (-1 : Int32)) &&& (a0 - (1 : Int32)))).toUInt32 >>> (((8 : Int32)).toUInt32 &&& Int32.toUInt32 31)).toInt32)).toUInt32 >>> (((4 : Int32)).toUInt32 &&& Int32.toUInt32 31)).toInt32)), some (ax_i (((1 : Int32) + (8 : Int32)) + (4 : Int32)))]) dJ6_numberOfTrailingZeros_0f7a4_61 rfl rfl (by decide) rfl rfl ?_
          refine ax_iload_n (q := 63) (i := 0) dJ6_numberOfTrailingZeros_0f7a4_62 rfl rfl rfl ?_
          refine ax_iconst (q := 64) dJ6_numberOfTrailingZeros_0f7a4_63 rfl ki_4 ?_
          refine ax_icmp_le (tgt := 74) (q := 67) dJ6_numberOfTrailingZeros_0f7a4_64 (by decide) rfl (fun c9 => ?_) (fun c9 => ?_)
          · refine ax_iload_n (q := 75) (i := 1) dJ6_numberOfTrailingZeros_0f7a4_74 rfl rfl rfl ?_
            refine ax_iload_n (q := 76) (i := 0) dJ6_numberOfTrailingZeros_0f7a4_75 rfl rfl rfl ?_
            refine ax_iconst (q := 77) dJ6_numberOfTrailingZeros_0f7a4_76 rfl ki_1 ?_
            refine ax_iushr (q := 78) dJ6_numberOfTrailingZeros_0f7a4_77 rfl ?_
            refine ax_iadd (q := 79) dJ6_numberOfTrailingZeros_0f7a4_78 rfl ?_
            exact ax_iret dJ6_numberOfTrailingZeros_0f7a4_79 rfl rfl (k7 c1 c2 c3 c7 c9)
          · refine ax_iincK (q := 70) (lv2 := [some (ax_i ((((((((a0 ^^^ (-1 : Int32)) &&& (a0 - (1 : Int32)))).toUInt32 >>> (((8 : Int32)).toUInt32 &&& Int32.toUInt32 31)).toInt32)).toUInt32 >>> (((4 : Int32)).toUInt32 &&& Int32.toUInt32 31)).toInt32)), some (ax_i ((((1 : Int32) + (8 : Int32)) + (4 : Int32)) + (2 : Int32)))]) dJ6_numberOfTrailingZeros_0f7a4_67 rfl rfl ki_2 (by decide) rfl rfl ?_
            refine ax_iload_n (q := 71) (i := 0) dJ6_numberOfTrailingZeros_0f7a4_70 rfl rfl rfl ?_
            refine ax_iconst (q := 72) dJ6_numberOfTrailingZeros_0f7a4_71 rfl ki_2 ?_
            refine ax_iushr (q := 73) dJ6_numberOfTrailingZeros_0f7a4_72 rfl ?_
            refine ax_istore_n (q := 74) (i := 0) (lv2 := [some (ax_i (((((((((((a0 ^^^ (-1 : Int32)) &&& (a0 - (1 : Int32)))).toUInt32 >>> (((8 : Int32)).toUInt32 &&& Int32.toUInt32 31)).toInt32)).toUInt32 >>> (((4 : Int32)).toUInt32 &&& Int32.toUInt32 31)).toInt32)).toUInt32 >>> (((2 : Int32)).toUInt32 &&& Int32.toUInt32 31)).toInt32)), some (ax_i ((((1 : Int32) + (8 : Int32)) + (4 : Int32)) + (2 : Int32)))]) dJ6_numberOfTrailingZeros_0f7a4_73 rfl rfl (by decide) rfl rfl ?_
            refine ax_iload_n (q := 75) (i := 1) dJ6_numberOfTrailingZeros_0f7a4_74 rfl rfl rfl ?_
            refine ax_iload_n (q := 76) (i := 0) dJ6_numberOfTrailingZeros_0f7a4_75 rfl rfl rfl ?_
            refine ax_iconst (q := 77) dJ6_numberOfTrailingZeros_0f7a4_76 rfl ki_1 ?_
            refine ax_iushr (q := 78) dJ6_numberOfTrailingZeros_0f7a4_77 rfl ?_
            refine ax_iadd (q := 79) dJ6_numberOfTrailingZeros_0f7a4_78 rfl ?_
            exact ax_iret dJ6_numberOfTrailingZeros_0f7a4_79 rfl rfl (k8 c1 c2 c3 c7 c9)
    · refine ax_iincK (q := 29) (lv2 := [some (ax_i ((a0 ^^^ (-1 : Int32)) &&& (a0 - (1 : Int32)))), some (ax_i ((1 : Int32) + (16 : Int32)))]) dJ6_numberOfTrailingZeros_0f7a4_26 rfl rfl ki_16 (by decide) rfl rfl ?_
      refine ax_iload_n (q := 30) (i := 0) dJ6_numberOfTrailingZeros_0f7a4_29 rfl rfl rfl ?_
      refine ax_bipush (q := 32) dJ6_numberOfTrailingZeros_0f7a4_30 rfl kb_16 ?_
      refine ax_iushr (q := 33) dJ6_numberOfTrailingZeros_0f7a4_32 rfl ?_
      refine ax_istore_n (q := 34) (i := 0) (lv2 := [some (ax_i (((((a0 ^^^ (-1 : Int32)) &&& (a0 - (1 : Int32)))).toUInt32 >>> (((16 : Int32)).toUInt32 &&& Int32.toUInt32 31)).toInt32)), some (ax_i ((1 : Int32) + (16 : Int32)))]) dJ6_numberOfTrailingZeros_0f7a4_33 rfl rfl (by decide) rfl rfl ?_
      refine ax_iload_n (q := 35) (i := 0) dJ6_numberOfTrailingZeros_0f7a4_34 rfl rfl rfl ?_
      refine ax_sipush (q := 38) dJ6_numberOfTrailingZeros_0f7a4_35 rfl ks_256 ?_
      refine ax_icmp_le (tgt := 49) (q := 41) dJ6_numberOfTrailingZeros_0f7a4_38 (by decide) rfl (fun c10 => ?_) (fun c10 => ?_)
      · refine ax_iload_n (q := 50) (i := 0) dJ6_numberOfTrailingZeros_0f7a4_49 rfl rfl rfl ?_
        refine ax_bipush (q := 52) dJ6_numberOfTrailingZeros_0f7a4_50 rfl kb_16 ?_
        refine ax_icmp_le (tgt := 62) (q := 55) dJ6_numberOfTrailingZeros_0f7a4_52 (by decide) rfl (fun c11 => ?_) (fun c11 => ?_)
        · refine ax_iload_n (q := 63) (i := 0) dJ6_numberOfTrailingZeros_0f7a4_62 rfl rfl rfl ?_
          refine ax_iconst (q := 64) dJ6_numberOfTrailingZeros_0f7a4_63 rfl ki_4 ?_
          refine ax_icmp_le (tgt := 74) (q := 67) dJ6_numberOfTrailingZeros_0f7a4_64 (by decide) rfl (fun c12 => ?_) (fun c12 => ?_)
          · refine ax_iload_n (q := 75) (i := 1) dJ6_numberOfTrailingZeros_0f7a4_74 rfl rfl rfl ?_
            refine ax_iload_n (q := 76) (i := 0) dJ6_numberOfTrailingZeros_0f7a4_75 rfl rfl rfl ?_
            refine ax_iconst (q := 77) dJ6_numberOfTrailingZeros_0f7a4_76 rfl ki_1 ?_
            refine ax_iushr (q := 78) dJ6_numberOfTrailingZeros_0f7a4_77 rfl ?_
            refine ax_iadd (q := 79) dJ6_numberOfTrailingZeros_0f7a4_78 rfl ?_
            exact ax_iret dJ6_numberOfTrailingZeros_0f7a4_79 rfl rfl (k9 c1 c2 c10 c11 c12)
          · refine ax_iincK (q := 70) (lv2 := [some (ax_i (((((a0 ^^^ (-1 : Int32)) &&& (a0 - (1 : Int32)))).toUInt32 >>> (((16 : Int32)).toUInt32 &&& Int32.toUInt32 31)).toInt32)), some (ax_i (((1 : Int32) + (16 : Int32)) + (2 : Int32)))]) dJ6_numberOfTrailingZeros_0f7a4_67 rfl rfl ki_2 (by decide) rfl rfl ?_
            refine ax_iload_n (q := 71) (i := 0) dJ6_numberOfTrailingZeros_0f7a4_70 rfl rfl rfl ?_
            refine ax_iconst (q := 72) dJ6_numberOfTrailingZeros_0f7a4_71 rfl ki_2 ?_
            refine ax_iushr (q := 73) dJ6_numberOfTrailingZeros_0f7a4_72 rfl ?_
            refine ax_istore_n (q := 74) (i := 0) (lv2 := [some (ax_i ((((((((a0 ^^^ (-1 : Int32)) &&& (a0 - (1 : Int32)))).toUInt32 >>> (((16 : Int32)).toUInt32 &&& Int32.toUInt32 31)).toInt32)).toUInt32 >>> (((2 : Int32)).toUInt32 &&& Int32.toUInt32 31)).toInt32)), some (ax_i (((1 : Int32) + (16 : Int32)) + (2 : Int32)))]) dJ6_numberOfTrailingZeros_0f7a4_73 rfl rfl (by decide) rfl rfl ?_
            refine ax_iload_n (q := 75) (i := 1) dJ6_numberOfTrailingZeros_0f7a4_74 rfl rfl rfl ?_
            refine ax_iload_n (q := 76) (i := 0) dJ6_numberOfTrailingZeros_0f7a4_75 rfl rfl rfl ?_
            refine ax_iconst (q := 77) dJ6_numberOfTrailingZeros_0f7a4_76 rfl ki_1 ?_
            refine ax_iushr (q := 78) dJ6_numberOfTrailingZeros_0f7a4_77 rfl ?_
            refine ax_iadd (q := 79) dJ6_numberOfTrailingZeros_0f7a4_78 rfl ?_
            exact ax_iret dJ6_numberOfTrailingZeros_0f7a4_79 rfl rfl (k10 c1 c2 c10 c11 c12)
        · refine ax_iincK (q := 58) (lv2 := [some (ax_i (((((a0 ^^^ (-1 : Int32)) &&& (a0 - (1 : Int32)))).toUInt32 >>> (((16 : Int32)).toUInt32 &&& Int32.toUInt32 31)).toInt32)), some (ax_i (((1 : Int32) + (16 : Int32)) + (4 : Int32)))]) dJ6_numberOfTrailingZeros_0f7a4_55 rfl rfl ki_4 (by decide) rfl rfl ?_
          refine ax_iload_n (q := 59) (i := 0) dJ6_numberOfTrailingZeros_0f7a4_58 rfl rfl rfl ?_
          refine ax_iconst (q := 60) dJ6_numberOfTrailingZeros_0f7a4_59 rfl ki_4 ?_
          refine ax_iushr (q := 61) dJ6_numberOfTrailingZeros_0f7a4_60 rfl ?_
          refine ax_istore_n (q := 62) (i := 0) (lv2 := [some (ax_i ((((((((a0 ^^^ (-1 : Int32)) &&& (a0 - (1 : Int32)))).toUInt32 >>> (((16 : Int32)).toUInt32 &&& Int32.toUInt32 31)).toInt32)).toUInt32 >>> (((4 : Int32)).toUInt32 &&& Int32.toUInt32 31)).toInt32)), some (ax_i (((1 : Int32) + (16 : Int32)) + (4 : Int32)))]) dJ6_numberOfTrailingZeros_0f7a4_61 rfl rfl (by decide) rfl rfl ?_
          refine ax_iload_n (q := 63) (i := 0) dJ6_numberOfTrailingZeros_0f7a4_62 rfl rfl rfl ?_
          refine ax_iconst (q := 64) dJ6_numberOfTrailingZeros_0f7a4_63 rfl ki_4 ?_
          refine ax_icmp_le (tgt := 74) (q := 67) dJ6_numberOfTrailingZeros_0f7a4_64 (by decide) rfl (fun c13 => ?_) (fun c13 => ?_)
          · refine ax_iload_n (q := 75) (i := 1) dJ6_numberOfTrailingZeros_0f7a4_74 rfl rfl rfl ?_
            refine ax_iload_n (q := 76) (i := 0) dJ6_numberOfTrailingZeros_0f7a4_75 rfl rfl rfl ?_
            refine ax_iconst (q := 77) dJ6_numberOfTrailingZeros_0f7a4_76 rfl ki_1 ?_
            refine ax_iushr (q := 78) dJ6_numberOfTrailingZeros_0f7a4_77 rfl ?_
            refine ax_iadd (q := 79) dJ6_numberOfTrailingZeros_0f7a4_78 rfl ?_
            exact ax_iret dJ6_numberOfTrailingZeros_0f7a4_79 rfl rfl (k11 c1 c2 c10 c11 c13)
          · refine ax_iincK (q := 70) (lv2 := [some (ax_i ((((((((a0 ^^^ (-1 : Int32)) &&& (a0 - (1 : Int32)))).toUInt32 >>> (((16 : Int32)).toUInt32 &&& Int32.toUInt32 31)).toInt32)).toUInt32 >>> (((4 : Int32)).toUInt32 &&& Int32.toUInt32 31)).toInt32)), some (ax_i ((((1 : Int32) + (16 : Int32)) + (4 : Int32)) + (2 : Int32)))]) dJ6_numberOfTrailingZeros_0f7a4_67 rfl rfl ki_2 (by decide) rfl rfl ?_
            refine ax_iload_n (q := 71) (i := 0) dJ6_numberOfTrailingZeros_0f7a4_70 rfl rfl rfl ?_
            refine ax_iconst (q := 72) dJ6_numberOfTrailingZeros_0f7a4_71 rfl ki_2 ?_
            refine ax_iushr (q := 73) dJ6_numberOfTrailingZeros_0f7a4_72 rfl ?_
            refine ax_istore_n (q := 74) (i := 0) (lv2 := [some (ax_i (((((((((((a0 ^^^ (-1 : Int32)) &&& (a0 - (1 : Int32)))).toUInt32 >>> (((16 : Int32)).toUInt32 &&& Int32.toUInt32 31)).toInt32)).toUInt32 >>> (((4 : Int32)).toUInt32 &&& Int32.toUInt32 31)).toInt32)).toUInt32 >>> (((2 : Int32)).toUInt32 &&& Int32.toUInt32 31)).toInt32)), some (ax_i ((((1 : Int32) + (16 : Int32)) + (4 : Int32)) + (2 : Int32)))]) dJ6_numberOfTrailingZeros_0f7a4_73 rfl rfl (by decide) rfl rfl ?_
            refine ax_iload_n (q := 75) (i := 1) dJ6_numberOfTrailingZeros_0f7a4_74 rfl rfl rfl ?_
            refine ax_iload_n (q := 76) (i := 0) dJ6_numberOfTrailingZeros_0f7a4_75 rfl rfl rfl ?_
            refine ax_iconst (q := 77) dJ6_numberOfTrailingZeros_0f7a4_76 rfl ki_1 ?_
            refine ax_iushr (q := 78) dJ6_numberOfTrailingZeros_0f7a4_77 rfl ?_
            refine ax_iadd (q := 79) dJ6_numberOfTrailingZeros_0f7a4_78 rfl ?_
            exact ax_iret dJ6_numberOfTrailingZeros_0f7a4_79 rfl rfl (k12 c1 c2 c10 c11 c13)
      · refine ax_iincK (q := 44) (lv2 := [some (ax_i (((((a0 ^^^ (-1 : Int32)) &&& (a0 - (1 : Int32)))).toUInt32 >>> (((16 : Int32)).toUInt32 &&& Int32.toUInt32 31)).toInt32)), some (ax_i (((1 : Int32) + (16 : Int32)) + (8 : Int32)))]) dJ6_numberOfTrailingZeros_0f7a4_41 rfl rfl ki_8 (by decide) rfl rfl ?_
        refine ax_iload_n (q := 45) (i := 0) dJ6_numberOfTrailingZeros_0f7a4_44 rfl rfl rfl ?_
        refine ax_bipush (q := 47) dJ6_numberOfTrailingZeros_0f7a4_45 rfl kb_8 ?_
        refine ax_iushr (q := 48) dJ6_numberOfTrailingZeros_0f7a4_47 rfl ?_
        refine ax_istore_n (q := 49) (i := 0) (lv2 := [some (ax_i ((((((((a0 ^^^ (-1 : Int32)) &&& (a0 - (1 : Int32)))).toUInt32 >>> (((16 : Int32)).toUInt32 &&& Int32.toUInt32 31)).toInt32)).toUInt32 >>> (((8 : Int32)).toUInt32 &&& Int32.toUInt32 31)).toInt32)), some (ax_i (((1 : Int32) + (16 : Int32)) + (8 : Int32)))]) dJ6_numberOfTrailingZeros_0f7a4_48 rfl rfl (by decide) rfl rfl ?_
        refine ax_iload_n (q := 50) (i := 0) dJ6_numberOfTrailingZeros_0f7a4_49 rfl rfl rfl ?_
        refine ax_bipush (q := 52) dJ6_numberOfTrailingZeros_0f7a4_50 rfl kb_16 ?_
        refine ax_icmp_le (tgt := 62) (q := 55) dJ6_numberOfTrailingZeros_0f7a4_52 (by decide) rfl (fun c14 => ?_) (fun c14 => ?_)
        · refine ax_iload_n (q := 63) (i := 0) dJ6_numberOfTrailingZeros_0f7a4_62 rfl rfl rfl ?_
          refine ax_iconst (q := 64) dJ6_numberOfTrailingZeros_0f7a4_63 rfl ki_4 ?_
          refine ax_icmp_le (tgt := 74) (q := 67) dJ6_numberOfTrailingZeros_0f7a4_64 (by decide) rfl (fun c15 => ?_) (fun c15 => ?_)
          · refine ax_iload_n (q := 75) (i := 1) dJ6_numberOfTrailingZeros_0f7a4_74 rfl rfl rfl ?_
            refine ax_iload_n (q := 76) (i := 0) dJ6_numberOfTrailingZeros_0f7a4_75 rfl rfl rfl ?_
            refine ax_iconst (q := 77) dJ6_numberOfTrailingZeros_0f7a4_76 rfl ki_1 ?_
            refine ax_iushr (q := 78) dJ6_numberOfTrailingZeros_0f7a4_77 rfl ?_
            refine ax_iadd (q := 79) dJ6_numberOfTrailingZeros_0f7a4_78 rfl ?_
            exact ax_iret dJ6_numberOfTrailingZeros_0f7a4_79 rfl rfl (k13 c1 c2 c10 c14 c15)
          · refine ax_iincK (q := 70) (lv2 := [some (ax_i ((((((((a0 ^^^ (-1 : Int32)) &&& (a0 - (1 : Int32)))).toUInt32 >>> (((16 : Int32)).toUInt32 &&& Int32.toUInt32 31)).toInt32)).toUInt32 >>> (((8 : Int32)).toUInt32 &&& Int32.toUInt32 31)).toInt32)), some (ax_i ((((1 : Int32) + (16 : Int32)) + (8 : Int32)) + (2 : Int32)))]) dJ6_numberOfTrailingZeros_0f7a4_67 rfl rfl ki_2 (by decide) rfl rfl ?_
            refine ax_iload_n (q := 71) (i := 0) dJ6_numberOfTrailingZeros_0f7a4_70 rfl rfl rfl ?_
            refine ax_iconst (q := 72) dJ6_numberOfTrailingZeros_0f7a4_71 rfl ki_2 ?_
            refine ax_iushr (q := 73) dJ6_numberOfTrailingZeros_0f7a4_72 rfl ?_
            refine ax_istore_n (q := 74) (i := 0) (lv2 := [some (ax_i (((((((((((a0 ^^^ (-1 : Int32)) &&& (a0 - (1 : Int32)))).toUInt32 >>> (((16 : Int32)).toUInt32 &&& Int32.toUInt32 31)).toInt32)).toUInt32 >>> (((8 : Int32)).toUInt32 &&& Int32.toUInt32 31)).toInt32)).toUInt32 >>> (((2 : Int32)).toUInt32 &&& Int32.toUInt32 31)).toInt32)), some (ax_i ((((1 : Int32) + (16 : Int32)) + (8 : Int32)) + (2 : Int32)))]) dJ6_numberOfTrailingZeros_0f7a4_73 rfl rfl (by decide) rfl rfl ?_
            refine ax_iload_n (q := 75) (i := 1) dJ6_numberOfTrailingZeros_0f7a4_74 rfl rfl rfl ?_
            refine ax_iload_n (q := 76) (i := 0) dJ6_numberOfTrailingZeros_0f7a4_75 rfl rfl rfl ?_
            refine ax_iconst (q := 77) dJ6_numberOfTrailingZeros_0f7a4_76 rfl ki_1 ?_
            refine ax_iushr (q := 78) dJ6_numberOfTrailingZeros_0f7a4_77 rfl ?_
            refine ax_iadd (q := 79) dJ6_numberOfTrailingZeros_0f7a4_78 rfl ?_
            exact ax_iret dJ6_numberOfTrailingZeros_0f7a4_79 rfl rfl (k14 c1 c2 c10 c14 c15)
        · refine ax_iincK (q := 58) (lv2 := [some (ax_i ((((((((a0 ^^^ (-1 : Int32)) &&& (a0 - (1 : Int32)))).toUInt32 >>> (((16 : Int32)).toUInt32 &&& Int32.toUInt32 31)).toInt32)).toUInt32 >>> (((8 : Int32)).toUInt32 &&& Int32.toUInt32 31)).toInt32)), some (ax_i ((((1 : Int32) + (16 : Int32)) + (8 : Int32)) + (4 : Int32)))]) dJ6_numberOfTrailingZeros_0f7a4_55 rfl rfl ki_4 (by decide) rfl rfl ?_
          refine ax_iload_n (q := 59) (i := 0) dJ6_numberOfTrailingZeros_0f7a4_58 rfl rfl rfl ?_
          refine ax_iconst (q := 60) dJ6_numberOfTrailingZeros_0f7a4_59 rfl ki_4 ?_
          refine ax_iushr (q := 61) dJ6_numberOfTrailingZeros_0f7a4_60 rfl ?_
          refine ax_istore_n (q := 62) (i := 0) (lv2 := [some (ax_i (((((((((((a0 ^^^ (-1 : Int32)) &&& (a0 - (1 : Int32)))).toUInt32 >>> (((16 : Int32)).toUInt32 &&& Int32.toUInt32 31)).toInt32)).toUInt32 >>> (((8 : Int32)).toUInt32 &&& Int32.toUInt32 31)).toInt32)).toUInt32 >>> (((4 : Int32)).toUInt32 &&& Int32.toUInt32 31)).toInt32)), some (ax_i ((((1 : Int32) + (16 : Int32)) + (8 : Int32)) + (4 : Int32)))]) dJ6_numberOfTrailingZeros_0f7a4_61 rfl rfl (by decide) rfl rfl ?_
          refine ax_iload_n (q := 63) (i := 0) dJ6_numberOfTrailingZeros_0f7a4_62 rfl rfl rfl ?_
          refine ax_iconst (q := 64) dJ6_numberOfTrailingZeros_0f7a4_63 rfl ki_4 ?_
          refine ax_icmp_le (tgt := 74) (q := 67) dJ6_numberOfTrailingZeros_0f7a4_64 (by decide) rfl (fun c16 => ?_) (fun c16 => ?_)
          · refine ax_iload_n (q := 75) (i := 1) dJ6_numberOfTrailingZeros_0f7a4_74 rfl rfl rfl ?_
            refine ax_iload_n (q := 76) (i := 0) dJ6_numberOfTrailingZeros_0f7a4_75 rfl rfl rfl ?_
            refine ax_iconst (q := 77) dJ6_numberOfTrailingZeros_0f7a4_76 rfl ki_1 ?_
            refine ax_iushr (q := 78) dJ6_numberOfTrailingZeros_0f7a4_77 rfl ?_
            refine ax_iadd (q := 79) dJ6_numberOfTrailingZeros_0f7a4_78 rfl ?_
            exact ax_iret dJ6_numberOfTrailingZeros_0f7a4_79 rfl rfl (k15 c1 c2 c10 c14 c16)
          · refine ax_iincK (q := 70) (lv2 := [some (ax_i (((((((((((a0 ^^^ (-1 : Int32)) &&& (a0 - (1 : Int32)))).toUInt32 >>> (((16 : Int32)).toUInt32 &&& Int32.toUInt32 31)).toInt32)).toUInt32 >>> (((8 : Int32)).toUInt32 &&& Int32.toUInt32 31)).toInt32)).toUInt32 >>> (((4 : Int32)).toUInt32 &&& Int32.toUInt32 31)).toInt32)), some (ax_i (((((1 : Int32) + (16 : Int32)) + (8 : Int32)) + (4 : Int32)) + (2 : Int32)))]) dJ6_numberOfTrailingZeros_0f7a4_67 rfl rfl ki_2 (by decide) rfl rfl ?_
            refine ax_iload_n (q := 71) (i := 0) dJ6_numberOfTrailingZeros_0f7a4_70 rfl rfl rfl ?_
            refine ax_iconst (q := 72) dJ6_numberOfTrailingZeros_0f7a4_71 rfl ki_2 ?_
            refine ax_iushr (q := 73) dJ6_numberOfTrailingZeros_0f7a4_72 rfl ?_
            refine ax_istore_n (q := 74) (i := 0) (lv2 := [some (ax_i ((((((((((((((a0 ^^^ (-1 : Int32)) &&& (a0 - (1 : Int32)))).toUInt32 >>> (((16 : Int32)).toUInt32 &&& Int32.toUInt32 31)).toInt32)).toUInt32 >>> (((8 : Int32)).toUInt32 &&& Int32.toUInt32 31)).toInt32)).toUInt32 >>> (((4 : Int32)).toUInt32 &&& Int32.toUInt32 31)).toInt32)).toUInt32 >>> (((2 : Int32)).toUInt32 &&& Int32.toUInt32 31)).toInt32)), some (ax_i (((((1 : Int32) + (16 : Int32)) + (8 : Int32)) + (4 : Int32)) + (2 : Int32)))]) dJ6_numberOfTrailingZeros_0f7a4_73 rfl rfl (by decide) rfl rfl ?_
            refine ax_iload_n (q := 75) (i := 1) dJ6_numberOfTrailingZeros_0f7a4_74 rfl rfl rfl ?_
            refine ax_iload_n (q := 76) (i := 0) dJ6_numberOfTrailingZeros_0f7a4_75 rfl rfl rfl ?_
            refine ax_iconst (q := 77) dJ6_numberOfTrailingZeros_0f7a4_76 rfl ki_1 ?_
            refine ax_iushr (q := 78) dJ6_numberOfTrailingZeros_0f7a4_77 rfl ?_
            refine ax_iadd (q := 79) dJ6_numberOfTrailingZeros_0f7a4_78 rfl ?_
            exact ax_iret dJ6_numberOfTrailingZeros_0f7a4_79 rfl rfl (k16 c1 c2 c10 c14 c16)
  · refine ax_iload_n (q := 13) (i := 0) dJ6_numberOfTrailingZeros_0f7a4_12 rfl rfl rfl ?_
    refine ax_bipush (q := 15) dJ6_numberOfTrailingZeros_0f7a4_13 rfl kb_32 ?_
    refine ax_iand (q := 16) dJ6_numberOfTrailingZeros_0f7a4_15 rfl ?_
    exact ax_iret dJ6_numberOfTrailingZeros_0f7a4_16 rfl rfl (k17 c1)
set_option maxRecDepth 20000 in
theorem s_X12_net_0 {d : Nat} (hd : 1 ≤ d) {Q : Option ax_V → ax_S → Prop} (σ : ax_S) (a0 : Int32) (k1 : ((σ.1 0 23) = 0) → Q (some (ax_i (-1 : Int32))) σ) (k2 : (¬ ((σ.1 0 23) = 0)) → ((¬ (a0 < (0 : Int32))) ∧ (¬ ((1 : Int32) < a0))) → ax_W shM (d + 1) mX12_net Q 25 [some (ax_r 0), some (ax_i a0), some (ax_i (0 : Int32)), some (ax_i (0 : Int32)), some (ax_i (0 : Int32))] [] σ) (k3 : (¬ ((σ.1 0 23) = 0)) → (¬ ((¬ (a0 < (0 : Int32))) ∧ (¬ ((1 : Int32) < a0)))) → Q (some (ax_i (-1 : Int32))) σ) : ax_W shM (d + 1) mX12_net Q 0 [some (ax_r 0), some (ax_i a0), none, none, none] [] σ := by
  refine ax_aload_n (q := 1) (i := 0) dX12_net_0 rfl rfl rfl ?_
  refine ax_get (q := 4) (k := 0) (j := 23) (v := ax_i (σ.1 0 23)) dX12_net_1 rfl shM_0 rfl rfl rfl (by decide) fl_X12_271 ?_
  refine ax_if_eq (tgt := 16) (q := 7) dX12_net_4 (by decide) rfl (fun c1 => ?_) (fun c1 => ?_)
  · refine ax_iconst (q := 17) dX12_net_16 rfl ki_m1 ?_
    exact ax_iret dX12_net_17 rfl rfl (k1 c1)
  · refine ax_iload_n (q := 8) (i := 1) dX12_net_7 rfl rfl rfl ?_
    refine ax_iconst (q := 9) dX12_net_8 rfl ki_0 ?_
    refine ax_iconst (q := 10) dX12_net_9 rfl ki_1 ?_
    refine ax_callSfi (q := 13) (As := [ax_i a0, ax_i (0 : Int32), ax_i (1 : Int32)]) (st := []) (x := (if ((¬ (a0 < (0 : Int32))) ∧ (¬ ((1 : Int32) < a0))) then (1 : Int32) else 0)) (σ2 := σ) dX12_net_10 rfl lk_X12_223 rfl rfl (Nat.le_of_ble_eq_true rfl) (f_X12_in (sh := shM) σ a0 (0 : Int32) (1 : Int32)  (d := d) (by omega)) ?_
    refine ax_if_neB (tgt := 18) (q := 16) dX12_net_13 (by decide) rfl (fun c2 => ?_) (fun c2 => ?_)
    · refine ax_iconst (q := 19) dX12_net_18 rfl ki_0 ?_
      refine ax_istore_n (q := 20) (i := 2) (lv2 := [some (ax_r 0), some (ax_i a0), some (ax_i (0 : Int32)), none, none]) dX12_net_19 rfl rfl (by decide) rfl rfl ?_
      refine ax_iconst (q := 21) dX12_net_20 rfl ki_0 ?_
      refine ax_istore_n (q := 22) (i := 3) (lv2 := [some (ax_r 0), some (ax_i a0), some (ax_i (0 : Int32)), some (ax_i (0 : Int32)), none]) dX12_net_21 rfl rfl (by decide) rfl rfl ?_
      refine ax_iconst (q := 23) dX12_net_22 rfl ki_0 ?_
      refine ax_istore (q := 25) (lv2 := [some (ax_r 0), some (ax_i a0), some (ax_i (0 : Int32)), some (ax_i (0 : Int32)), some (ax_i (0 : Int32))]) dX12_net_23 rfl (by decide) rfl rfl ?_
      exact (k2 c1 c2)
    · refine ax_iconst (q := 17) dX12_net_16 rfl ki_m1 ?_
      exact ax_iret dX12_net_17 rfl rfl (k3 c1 c2)
set_option maxRecDepth 20000 in
theorem s_X12_net_25 {d : Nat} (hd : 0 ≤ d) {Q : Option ax_V → ax_S → Prop} (σ : ax_S) (x1 : Int32) (x2 : Int32) (x3 : Int32) (x4 : Int32) (k1 : ((σ.1 0 23) ≤ x4) → ax_W shM (d + 1) mX12_net Q 66 [some (ax_r 0), some (ax_i x1), some (ax_i x2), some (ax_i x3), some (ax_i (0 : Int32))] [] σ) (k2 : (¬ ((σ.1 0 23) ≤ x4)) → ax_Ct shM d mX12_townBut [ax_r 0, ax_i x4, ax_i (-1 : Int32)] (fun r u => ∃ x : Int32, r = some (ax_i x) ∧ ax_W shM (d + 1) mX12_net Q 42 [some (ax_r 0), some (ax_i x1), none, some (ax_i x3), some (ax_i x4)] (ax_i x :: [ax_i x2]) u) σ) : ax_W shM (d + 1) mX12_net Q 25 [some (ax_r 0), some (ax_i x1), some (ax_i x2), some (ax_i x3), some (ax_i x4)] [] σ := by
  refine ax_iload (q := 27) dX12_net_25 rfl rfl ?_
  refine ax_aload_n (q := 28) (i := 0) dX12_net_27 rfl rfl rfl ?_
  refine ax_get (q := 31) (k := 0) (j := 23) (v := ax_i (σ.1 0 23)) dX12_net_28 rfl shM_0 rfl rfl rfl (by decide) fl_X12_271 ?_
  refine ax_icmp_ge (tgt := 63) (q := 34) dX12_net_31 (by decide) rfl (fun c1 => ?_) (fun c1 => ?_)
  · refine ax_iconst (q := 64) dX12_net_63 rfl ki_0 ?_
    refine ax_istore (q := 66) (lv2 := [some (ax_r 0), some (ax_i x1), some (ax_i x2), some (ax_i x3), some (ax_i (0 : Int32))]) dX12_net_64 rfl (by decide) rfl rfl ?_
    exact (k1 c1)
  · refine ax_iload_n (q := 35) (i := 2) dX12_net_34 rfl rfl rfl ?_
    refine ax_aload_n (q := 36) (i := 0) dX12_net_35 rfl rfl rfl ?_
    refine ax_iload (q := 38) dX12_net_36 rfl rfl ?_
    refine ax_iconst (q := 39) dX12_net_38 rfl ki_m1 ?_
    refine ax_fg (lv2 := [some (ax_r 0), some (ax_i x1), none, some (ax_i x3), some (ax_i x4)]) ⟨rfl, rfl, rfl, rfl, trivial⟩ ?_
    exact ax_callVci (q := 42) (As := [ax_i x4, ax_i (-1 : Int32)]) (st := [ax_i x2]) dX12_net_39 rfl lk_X12_437 shM_0 rfl rfl rfl rfl (Nat.le_of_ble_eq_true rfl) (k2 c1)
set_option maxRecDepth 20000 in
theorem s_X12_net_42 {d : Nat} (hd : 0 ≤ d) {Q : Option ax_V → ax_S → Prop} (σ : ax_S) (x1 : Int32) (x3 : Int32) (x4 : Int32) (rr : Int32) (y0 : Int32) (k1 : ax_Ct shM d mJ6_numberOfTrailingZeros_0f7a4 [ax_i rr] (fun r u => ∃ x : Int32, r = some (ax_i x) ∧ ax_W shM (d + 1) mX12_net Q 45 [some (ax_r 0), some (ax_i x1), none, some (ax_i x3), some (ax_i x4)] (ax_i x :: [ax_i y0]) u) σ) : ax_W shM (d + 1) mX12_net Q 42 [some (ax_r 0), some (ax_i x1), none, some (ax_i x3), some (ax_i x4)] [ax_i rr, ax_i y0] σ := by
  exact ax_callSci (q := 45) (As := [ax_i rr]) (st := [ax_i y0]) dX12_net_42 rfl lk_X12_440 rfl rfl (Nat.le_of_ble_eq_true rfl) k1
set_option maxRecDepth 20000 in
theorem s_X12_net_66 {d : Nat} (hd : 2 ≤ d) {Q : Option ax_V → ax_S → Prop} (σ : ax_S) (x1 : Int32) (x2 : Int32) (x3 : Int32) (x4 : Int32) (k1 : ((σ.1 15 84) ≤ x4) → (¬ x1 = 0) → Q (some (ax_i x3)) σ) (k2 : ((σ.1 15 84) ≤ x4) → (¬ (¬ x1 = 0)) → ax_Ct shM d mX12_allLive [ax_r 0] (fun r u => ∃ x : Int32, r = some (ax_i x) ∧ ax_W shM (d + 1) mX12_net Q 138 [some (ax_r 0), none, some (ax_i x2), none, none] (ax_i x :: []) u) σ) (h3 : (¬ ((σ.1 15 84) ≤ x4)) → vp_in (((16 : Int32) + ((4 : Int32) * x4)) + (3 : Int32)) 268) (h4 : (¬ ((σ.1 15 84) ≤ x4)) → (¬ (¬ (σ.1 15 (Int32.toNatClampNeg (((16 : Int32) + ((4 : Int32) * x4)) + (3 : Int32)))) = 0)) → vp_in (((16 : Int32) + ((4 : Int32) * x4)) + (2 : Int32)) 268) (k5 : (¬ ((σ.1 15 84) ≤ x4)) → (¬ ((¬ (¬ (σ.1 15 (Int32.toNatClampNeg (((16 : Int32) + ((4 : Int32) * x4)) + (3 : Int32)))) = 0)) ∧ (¬ ((9 : Int32) ≤ (σ.1 15 (Int32.toNatClampNeg (((16 : Int32) + ((4 : Int32) * x4)) + (2 : Int32)))))))) → ax_W shM (d + 1) mX12_net Q 66 [some (ax_r 0), some (ax_i x1), some (ax_i x2), some (ax_i (x3 ||| (0 : Int32))), some (ax_i (x4 + (1 : Int32)))] [] σ) (h6 : (¬ ((σ.1 15 84) ≤ x4)) → ((¬ (¬ (σ.1 15 (Int32.toNatClampNeg (((16 : Int32) + ((4 : Int32) * x4)) + (3 : Int32)))) = 0)) ∧ (¬ ((9 : Int32) ≤ (σ.1 15 (Int32.toNatClampNeg (((16 : Int32) + ((4 : Int32) * x4)) + (2 : Int32))))))) → vp_in (((16 : Int32) + ((4 : Int32) * x4)) + (0 : Int32)) 268) (k7 : (¬ ((σ.1 15 84) ≤ x4)) → ((¬ (¬ (σ.1 15 (Int32.toNatClampNeg (((16 : Int32) + ((4 : Int32) * x4)) + (3 : Int32)))) = 0)) ∧ (¬ ((9 : Int32) ≤ (σ.1 15 (Int32.toNatClampNeg (((16 : Int32) + ((4 : Int32) * x4)) + (2 : Int32))))))) → ax_Ct shM d mX12_townBut [ax_r 0, ax_i (σ.1 15 (Int32.toNatClampNeg (((16 : Int32) + ((4 : Int32) * x4)) + (0 : Int32)))), ax_i x4] (fun r u => ∃ x : Int32, r = some (ax_i x) ∧ ax_W shM (d + 1) mX12_net Q 101 [some (ax_r 0), some (ax_i x1), some (ax_i x2), none, some (ax_i x4)] (ax_i x :: [ax_i x3]) u) σ) : ax_W shM (d + 1) mX12_net Q 66 [some (ax_r 0), some (ax_i x1), some (ax_i x2), some (ax_i x3), some (ax_i x4)] [] σ := by
  refine ax_iload (q := 68) dX12_net_66 rfl rfl ?_
  refine ax_aload_n (q := 69) (i := 0) dX12_net_68 rfl rfl rfl ?_
  refine ax_get (q := 72) (k := 0) (j := 25) (v := ax_r 15) dX12_net_69 rfl shM_0 rfl rfl rfl (by decide) fl_X12_52 ?_
  refine ax_bipush (q := 74) dX12_net_72 rfl kb_84 ?_
  refine ax_iald (q := 75) (a := 84) (v := (σ.1 15 84)) dX12_net_74 rfl shM_15 (ax_inl 84 268 (by decide) (by decide)) rfl rfl ?_
  refine ax_icmp_ge (tgt := 130) (q := 78) dX12_net_75 (by decide) rfl (fun c1 => ?_) (fun c1 => ?_)
  · refine ax_iload_n (q := 131) (i := 1) dX12_net_130 rfl rfl rfl ?_
    refine ax_if_ne (tgt := 151) (q := 134) dX12_net_131 (by decide) rfl (fun c2 => ?_) (fun c2 => ?_)
    · refine ax_iload_n (q := 152) (i := 3) dX12_net_151 rfl rfl rfl ?_
      exact ax_iret dX12_net_152 rfl rfl (k1 c1 c2)
    · refine ax_aload_n (q := 135) (i := 0) dX12_net_134 rfl rfl rfl ?_
      refine ax_fg (lv2 := [some (ax_r 0), none, some (ax_i x2), none, none]) ⟨rfl, rfl, trivial⟩ ?_
      exact ax_callVci (q := 138) (As := []) (st := []) dX12_net_135 rfl lk_X12_443 shM_0 rfl rfl rfl rfl (Nat.le_of_ble_eq_true rfl) (k2 c1 c2)
  · refine ax_iload_n (q := 79) (i := 3) dX12_net_78 rfl rfl rfl ?_
    refine ax_aload_n (q := 80) (i := 0) dX12_net_79 rfl rfl rfl ?_
    refine ax_iload (q := 82) dX12_net_80 rfl rfl ?_
    refine ax_callVfi (q := 85) (As := [ax_i x4]) (st := [ax_i x3]) (x := (if ((¬ (¬ (σ.1 15 (Int32.toNatClampNeg (((16 : Int32) + ((4 : Int32) * x4)) + (3 : Int32)))) = 0)) ∧ (¬ ((9 : Int32) ≤ (σ.1 15 (Int32.toNatClampNeg (((16 : Int32) + ((4 : Int32) * x4)) + (2 : Int32))))))) then (1 : Int32) else 0)) (σ2 := σ) dX12_net_82 rfl lk_X12_312 shM_0 rfl rfl rfl rfl (Nat.le_of_ble_eq_true rfl) (f_X12_isLive σ x4 (h3 c1) (h4 c1) (d := d) (by omega)) ?_
    refine ax_if_eqB (tgt := 121) (q := 88) dX12_net_85 (by decide) rfl (fun c3 => ?_) (fun c3 => ?_)
    · refine ax_iconst (q := 122) dX12_net_121 rfl ki_0 ?_
      refine ax_ior (q := 123) dX12_net_122 rfl ?_
      refine ax_istore_n (q := 124) (i := 3) (lv2 := [some (ax_r 0), some (ax_i x1), some (ax_i x2), some (ax_i (x3 ||| (0 : Int32))), some (ax_i x4)]) dX12_net_123 rfl rfl (by decide) rfl rfl ?_
      refine ax_iincK (q := 127) (lv2 := [some (ax_r 0), some (ax_i x1), some (ax_i x2), some (ax_i (x3 ||| (0 : Int32))), some (ax_i (x4 + (1 : Int32)))]) dX12_net_124 rfl rfl ki_1 (by decide) rfl rfl ?_
      refine ax_goto (tgt := 66) dX12_net_127 (by decide) ?_
      exact (k5 c1 c3)
    · refine ax_aload_n (q := 89) (i := 0) dX12_net_88 rfl rfl rfl ?_
      refine ax_aload_n (q := 90) (i := 0) dX12_net_89 rfl rfl rfl ?_
      refine ax_iload (q := 92) dX12_net_90 rfl rfl ?_
      refine ax_iconst (q := 93) dX12_net_92 rfl ki_0 ?_
      refine ax_callVfi (q := 96) (As := [ax_i x4, ax_i (0 : Int32)]) (st := [ax_r 0, ax_i x3]) (x := (σ.1 15 (Int32.toNatClampNeg (((16 : Int32) + ((4 : Int32) * x4)) + (0 : Int32))))) (σ2 := σ) dX12_net_93 rfl lk_X12_306 shM_0 rfl rfl rfl rfl (Nat.le_of_ble_eq_true rfl) (f_X12_ofWire σ x4 (0 : Int32) (h6 c1 c3) (d := d) (by omega)) ?_
      refine ax_iload (q := 98) dX12_net_96 rfl rfl ?_
      refine ax_fg (lv2 := [some (ax_r 0), some (ax_i x1), some (ax_i x2), none, some (ax_i x4)]) ⟨rfl, rfl, rfl, rfl, trivial⟩ ?_
      exact ax_callVci (q := 101) (As := [ax_i (σ.1 15 (Int32.toNatClampNeg (((16 : Int32) + ((4 : Int32) * x4)) + (0 : Int32)))), ax_i x4]) (st := [ax_i x3]) dX12_net_98 rfl lk_X12_437 shM_0 rfl rfl rfl rfl (Nat.le_of_ble_eq_true rfl) (k7 c1 c3)
set_option maxRecDepth 20000 in
theorem s_X12_net_45 {d : Nat} (hd : 0 ≤ d) {Q : Option ax_V → ax_S → Prop} (σ : ax_S) (x1 : Int32) (x3 : Int32) (x4 : Int32) (rr : Int32) (y0 : Int32) (k1 : ax_W shM (d + 1) mX12_net Q 25 [some (ax_r 0), some (ax_i x1), some (ax_i (y0 + (if (¬ (¬ rr = x4)) then (1 : Int32) else 0))), some (ax_i x3), some (ax_i (x4 + (1 : Int32)))] [] σ) : ax_W shM (d + 1) mX12_net Q 45 [some (ax_r 0), some (ax_i x1), none, some (ax_i x3), some (ax_i x4)] [ax_i rr, ax_i y0] σ := by
  refine ax_iload (q := 47) dX12_net_45 rfl rfl ?_
  have K2 : ax_W shM (d + 1) mX12_net Q 55 [some (ax_r 0), some (ax_i x1), none, some (ax_i x3), some (ax_i x4)] [ax_i (if (¬ (¬ rr = x4)) then (1 : Int32) else 0), ax_i y0] σ := by
    refine ax_iadd (q := 56) dX12_net_55 rfl ?_
    refine ax_istore_n (q := 57) (i := 2) (lv2 := [some (ax_r 0), some (ax_i x1), some (ax_i (y0 + (if (¬ (¬ rr = x4)) then (1 : Int32) else 0))), some (ax_i x3), some (ax_i x4)]) dX12_net_56 rfl rfl (by decide) rfl rfl ?_
    refine ax_iincK (q := 60) (lv2 := [some (ax_r 0), some (ax_i x1), some (ax_i (y0 + (if (¬ (¬ rr = x4)) then (1 : Int32) else 0))), some (ax_i x3), some (ax_i (x4 + (1 : Int32)))]) dX12_net_57 rfl rfl ki_1 (by decide) rfl rfl ?_
    refine ax_goto (tgt := 25) dX12_net_60 (by decide) ?_
    exact k1
  refine ax_icmp_ne (tgt := 54) (q := 50) dX12_net_47 (by decide) rfl (fun c1 => ?_) (fun c1 => ?_)
  · refine ax_iconst (q := 55) dX12_net_54 rfl ki_0 ?_
    exact ax_cv (if_neg (fun y => y c1)) K2
  · refine ax_iconst (q := 51) dX12_net_50 rfl ki_1 ?_
    refine ax_goto (tgt := 55) dX12_net_51 (by decide) ?_
    exact ax_cv (if_pos c1) K2
set_option maxRecDepth 20000 in
theorem s_X12_net_101 {d : Nat} (hd : 1 ≤ d) {Q : Option ax_V → ax_S → Prop} (σ : ax_S) (x1 : Int32) (x2 : Int32) (x4 : Int32) (rr : Int32) (y0 : Int32) (h1 : vp_in (((16 : Int32) + ((4 : Int32) * x4)) + (1 : Int32)) 268) (k2 : ax_W shM (d + 1) mX12_net Q 66 [some (ax_r 0), some (ax_i x1), some (ax_i x2), some (ax_i (y0 ||| (if (¬ (¬ ((rr >>> ((σ.1 15 (Int32.toNatClampNeg (((16 : Int32) + ((4 : Int32) * x4)) + (1 : Int32)))) &&& 31)) &&& (1 : Int32)) = (1 : Int32))) then (0 : Int32) else ((1 : Int32) <<< (x4 &&& 31))))), some (ax_i (x4 + (1 : Int32)))] [] σ) : ax_W shM (d + 1) mX12_net Q 101 [some (ax_r 0), some (ax_i x1), some (ax_i x2), none, some (ax_i x4)] [ax_i rr, ax_i y0] σ := by
  refine ax_aload_n (q := 102) (i := 0) dX12_net_101 rfl rfl rfl ?_
  refine ax_iload (q := 104) dX12_net_102 rfl rfl ?_
  refine ax_iconst (q := 105) dX12_net_104 rfl ki_1 ?_
  refine ax_callVfi (q := 108) (As := [ax_i x4, ax_i (1 : Int32)]) (st := [ax_i rr, ax_i y0]) (x := (σ.1 15 (Int32.toNatClampNeg (((16 : Int32) + ((4 : Int32) * x4)) + (1 : Int32))))) (σ2 := σ) dX12_net_105 rfl lk_X12_306 shM_0 rfl rfl rfl rfl (Nat.le_of_ble_eq_true rfl) (f_X12_ofWire σ x4 (1 : Int32) h1 (d := d) (by omega)) ?_
  refine ax_callSfi (q := 111) (As := [ax_i rr, ax_i (σ.1 15 (Int32.toNatClampNeg (((16 : Int32) + ((4 : Int32) * x4)) + (1 : Int32))))]) (st := [ax_i y0]) (x := (if (¬ (¬ ((rr >>> ((σ.1 15 (Int32.toNatClampNeg (((16 : Int32) + ((4 : Int32) * x4)) + (1 : Int32)))) &&& 31)) &&& (1 : Int32)) = (1 : Int32))) then (1 : Int32) else 0)) (σ2 := σ) dX12_net_108 rfl lk_X12_234 rfl rfl (Nat.le_of_ble_eq_true rfl) (f_X12_has (sh := shM) σ rr (σ.1 15 (Int32.toNatClampNeg (((16 : Int32) + ((4 : Int32) * x4)) + (1 : Int32))))  (d := d) (by omega)) ?_
  have K2 : ax_W shM (d + 1) mX12_net Q 122 [some (ax_r 0), some (ax_i x1), some (ax_i x2), none, some (ax_i x4)] [ax_i (if (¬ (¬ ((rr >>> ((σ.1 15 (Int32.toNatClampNeg (((16 : Int32) + ((4 : Int32) * x4)) + (1 : Int32)))) &&& 31)) &&& (1 : Int32)) = (1 : Int32))) then (0 : Int32) else ((1 : Int32) <<< (x4 &&& 31))), ax_i y0] σ := by
    refine ax_ior (q := 123) dX12_net_122 rfl ?_
    refine ax_istore_n (q := 124) (i := 3) (lv2 := [some (ax_r 0), some (ax_i x1), some (ax_i x2), some (ax_i (y0 ||| (if (¬ (¬ ((rr >>> ((σ.1 15 (Int32.toNatClampNeg (((16 : Int32) + ((4 : Int32) * x4)) + (1 : Int32)))) &&& 31)) &&& (1 : Int32)) = (1 : Int32))) then (0 : Int32) else ((1 : Int32) <<< (x4 &&& 31))))), some (ax_i x4)]) dX12_net_123 rfl rfl (by decide) rfl rfl ?_
    refine ax_iincK (q := 127) (lv2 := [some (ax_r 0), some (ax_i x1), some (ax_i x2), some (ax_i (y0 ||| (if (¬ (¬ ((rr >>> ((σ.1 15 (Int32.toNatClampNeg (((16 : Int32) + ((4 : Int32) * x4)) + (1 : Int32)))) &&& 31)) &&& (1 : Int32)) = (1 : Int32))) then (0 : Int32) else ((1 : Int32) <<< (x4 &&& 31))))), some (ax_i (x4 + (1 : Int32)))]) dX12_net_124 rfl rfl ki_1 (by decide) rfl rfl ?_
    refine ax_goto (tgt := 66) dX12_net_127 (by decide) ?_
    exact k2
  refine ax_if_neB (tgt := 121) (q := 114) dX12_net_111 (by decide) rfl (fun c1 => ?_) (fun c1 => ?_)
  · refine ax_iconst (q := 122) dX12_net_121 rfl ki_0 ?_
    exact ax_cv (if_pos c1) K2
  · refine ax_iconst (q := 115) dX12_net_114 rfl ki_1 ?_
    refine ax_iload (q := 117) dX12_net_115 rfl rfl ?_
    refine ax_ishl (q := 118) dX12_net_117 rfl ?_
    refine ax_goto (tgt := 122) dX12_net_118 (by decide) ?_
    exact ax_cv (if_neg c1) K2
set_option maxRecDepth 20000 in
theorem s_X12_net_138 {d : Nat} (hd : 1 ≤ d) {Q : Option ax_V → ax_S → Prop} (σ : ax_S) (x2 : Int32) (rr : Int32) (k1 : Q (some (ax_i (((v_J6_bitCount_0f7a4 rr) - (σ.1 0 23)) + x2))) σ) : ax_W shM (d + 1) mX12_net Q 138 [some (ax_r 0), none, some (ax_i x2), none, none] [ax_i rr] σ := by
  refine ax_callSfi (q := 141) (As := [ax_i rr]) (st := []) (x := (v_J6_bitCount_0f7a4 rr)) (σ2 := σ) dX12_net_138 rfl lk_X12_417 rfl rfl (Nat.le_of_ble_eq_true rfl) (f_J6_bitCount_0f7a4 (sh := shM) σ rr  (d := d) (by omega)) ?_
  refine ax_aload_n (q := 142) (i := 0) dX12_net_141 rfl rfl rfl ?_
  refine ax_get (q := 145) (k := 0) (j := 23) (v := ax_i (σ.1 0 23)) dX12_net_142 rfl shM_0 rfl rfl rfl (by decide) fl_X12_271 ?_
  refine ax_isub (q := 146) dX12_net_145 rfl ?_
  refine ax_iload_n (q := 147) (i := 2) dX12_net_146 rfl rfl rfl ?_
  refine ax_iadd (q := 148) dX12_net_147 rfl ?_
  refine ax_goto (tgt := 152) dX12_net_148 (by decide) ?_
  exact ax_iret dX12_net_152 rfl rfl k1
set_option maxRecDepth 20000 in
theorem s_X12_mostKept_0 {d : Nat} (hd : 0 ≤ d) {Q : Option ax_V → ax_S → Prop} (σ : ax_S) (a0 : Int32) (a1 : Int32) (a2 : Int32) (a3 : Int32) (k1 : ax_Ct shM d mX12_keepsOf [ax_r 0, ax_i a1, ax_i a3, ax_i a0] (fun r u => ∃ x : Int32, r = some (ax_i x) ∧ ax_W shM (d + 1) mX12_mostKept Q 8 [some (ax_r 0), some (ax_i a0), none, some (ax_i a2), some (ax_i a3)] (ax_i x :: []) u) σ) : ax_W shM (d + 1) mX12_mostKept Q 0 [some (ax_r 0), some (ax_i a0), some (ax_i a1), some (ax_i a2), some (ax_i a3)] [] σ := by
  refine ax_aload_n (q := 1) (i := 0) dX12_mostKept_0 rfl rfl rfl ?_
  refine ax_iload_n (q := 2) (i := 2) dX12_mostKept_1 rfl rfl rfl ?_
  refine ax_iload (q := 4) dX12_mostKept_2 rfl rfl ?_
  refine ax_iload_n (q := 5) (i := 1) dX12_mostKept_4 rfl rfl rfl ?_
  refine ax_fg (lv2 := [some (ax_r 0), some (ax_i a0), none, some (ax_i a2), some (ax_i a3)]) ⟨rfl, rfl, rfl, rfl, trivial⟩ ?_
  exact ax_callVci (q := 8) (As := [ax_i a1, ax_i a3, ax_i a0]) (st := []) dX12_mostKept_5 rfl lk_X12_404 shM_0 rfl rfl rfl rfl (Nat.le_of_ble_eq_true rfl) k1
set_option maxRecDepth 20000 in
theorem s_X12_mostKept_8 {d : Nat} (hd : 0 ≤ d) {Q : Option ax_V → ax_S → Prop} (σ : ax_S) (x1 : Int32) (x3 : Int32) (x4 : Int32) (rr : Int32) (k1 : ax_Ct shM d mX12_keepsOf [ax_r 0, ax_i x3, ax_i x4, ax_i x1] (fun r u => ∃ x : Int32, r = some (ax_i x) ∧ ax_W shM (d + 1) mX12_mostKept Q 16 [none, none, none, none, none] (ax_i x :: [ax_i rr]) u) σ) : ax_W shM (d + 1) mX12_mostKept Q 8 [some (ax_r 0), some (ax_i x1), none, some (ax_i x3), some (ax_i x4)] [ax_i rr] σ := by
  refine ax_aload_n (q := 9) (i := 0) dX12_mostKept_8 rfl rfl rfl ?_
  refine ax_iload_n (q := 10) (i := 3) dX12_mostKept_9 rfl rfl rfl ?_
  refine ax_iload (q := 12) dX12_mostKept_10 rfl rfl ?_
  refine ax_iload_n (q := 13) (i := 1) dX12_mostKept_12 rfl rfl rfl ?_
  refine ax_fg (lv2 := [none, none, none, none, none]) trivial ?_
  exact ax_callVci (q := 16) (As := [ax_i x3, ax_i x4, ax_i x1]) (st := [ax_i rr]) dX12_mostKept_13 rfl lk_X12_404 shM_0 rfl rfl rfl rfl (Nat.le_of_ble_eq_true rfl) k1
set_option maxRecDepth 20000 in
theorem s_X12_mostKept_16 {d : Nat} (hd : 0 ≤ d) {Q : Option ax_V → ax_S → Prop} (σ : ax_S) (rr : Int32) (y0 : Int32) (k1 : Q (some (ax_i (if y0 < rr then rr else y0))) σ) : ax_W shM (d + 1) mX12_mostKept Q 16 [none, none, none, none, none] [ax_i rr, ax_i y0] σ := by
  refine ax_mmax (q := 19) dX12_mostKept_16 rfl mk_X12_255 (Nat.le_of_ble_eq_true rfl) ?_
  exact ax_iret dX12_mostKept_19 rfl rfl k1
set_option maxRecDepth 20000 in
theorem s_X12_gameOf_0 {d : Nat} (hd : 2 ≤ d) {Q : Option ax_V → ax_S → Prop} (σ : ax_S) (a0 : Int32) (a1 : Int32) (a2 : Int32) (a3 : Int32) (h1 : (a3 = 0) → vp_in ((0 : Int32) + a0) 268) (k2 : (a3 = 0) → ax_Ct shM d mX12_mostKept [ax_r 0, ax_i a0, ax_i a0, ax_i a1, ax_i a2] (fun r u => ∃ x : Int32, r = some (ax_i x) ∧ ax_W shM (d + 1) mX12_gameOf Q 29 [some (ax_r 0), none, none, none, some (ax_i a3), none] (ax_i x :: [ax_i (σ.1 15 (Int32.toNatClampNeg ((0 : Int32) + a0)))]) u) σ) (h3 : (¬ (a3 = 0)) → vp_in (((16 : Int32) + ((4 : Int32) * (σ.1 15 84))) + (0 : Int32)) 268) (h4 : (¬ (a3 = 0)) → vp_in (((16 : Int32) + ((4 : Int32) * (σ.1 15 84))) + (1 : Int32)) 268) (h5 : (¬ (a3 = 0)) → vp_in (((16 : Int32) + ((4 : Int32) * (σ.1 15 84))) + (2 : Int32)) 268) (h6 : (¬ (a3 = 0)) → vp_in (((16 : Int32) + ((4 : Int32) * (σ.1 15 84))) + (3 : Int32)) 268) (h7 : (¬ (a3 = 0)) → vp_in ((0 : Int32) + a0) 268) (k8 : (¬ (a3 = 0)) → ax_Ct shM d mX12_mostKept [ax_r 0, ax_i a0, ax_i a0, ax_i a1, ax_i a2] (fun r u => ∃ x : Int32, r = some (ax_i x) ∧ ax_W shM (d + 1) mX12_gameOf Q 29 [some (ax_r 0), none, none, none, some (ax_i a3), none] (ax_i x :: [ax_i ((ax_ui (ax_ui (ax_ui (ax_ui (ax_ui σ 15 84 ((σ.1 15 84) + (1 : Int32))) 15 (Int32.toNatClampNeg (((16 : Int32) + ((4 : Int32) * (σ.1 15 84))) + (0 : Int32))) a0) 15 (Int32.toNatClampNeg (((16 : Int32) + ((4 : Int32) * (σ.1 15 84))) + (1 : Int32))) a1) 15 (Int32.toNatClampNeg (((16 : Int32) + ((4 : Int32) * (σ.1 15 84))) + (2 : Int32))) (0 : Int32)) 15 (Int32.toNatClampNeg (((16 : Int32) + ((4 : Int32) * (σ.1 15 84))) + (3 : Int32))) (0 : Int32)).1 15 (Int32.toNatClampNeg ((0 : Int32) + a0)))]) u) (ax_ui (ax_ui (ax_ui (ax_ui (ax_ui σ 15 84 ((σ.1 15 84) + (1 : Int32))) 15 (Int32.toNatClampNeg (((16 : Int32) + ((4 : Int32) * (σ.1 15 84))) + (0 : Int32))) a0) 15 (Int32.toNatClampNeg (((16 : Int32) + ((4 : Int32) * (σ.1 15 84))) + (1 : Int32))) a1) 15 (Int32.toNatClampNeg (((16 : Int32) + ((4 : Int32) * (σ.1 15 84))) + (2 : Int32))) (0 : Int32)) 15 (Int32.toNatClampNeg (((16 : Int32) + ((4 : Int32) * (σ.1 15 84))) + (3 : Int32))) (0 : Int32))) : ax_W shM (d + 1) mX12_gameOf Q 0 [some (ax_r 0), some (ax_i a0), some (ax_i a1), some (ax_i a2), some (ax_i a3), none] [] σ := by
  refine ax_iload (q := 2) dX12_gameOf_0 rfl rfl ?_
  refine ax_if_eq (tgt := 13) (q := 5) dX12_gameOf_2 (by decide) rfl (fun c1 => ?_) (fun c1 => ?_)
  · refine ax_aload_n (q := 14) (i := 0) dX12_gameOf_13 rfl rfl rfl ?_
    refine ax_get (q := 17) (k := 0) (j := 25) (v := ax_r 15) dX12_gameOf_14 rfl shM_0 rfl rfl rfl (by decide) fl_X12_52 ?_
    refine ax_iconst (q := 18) dX12_gameOf_17 rfl ki_0 ?_
    refine ax_iload_n (q := 19) (i := 1) dX12_gameOf_18 rfl rfl rfl ?_
    refine ax_iadd (q := 20) dX12_gameOf_19 rfl ?_
    refine ax_iald (q := 21) (a := (Int32.toNatClampNeg ((0 : Int32) + a0))) (v := (σ.1 15 (Int32.toNatClampNeg ((0 : Int32) + a0)))) dX12_gameOf_20 rfl shM_15 (h1 c1) rfl rfl ?_
    refine ax_aload_n (q := 22) (i := 0) dX12_gameOf_21 rfl rfl rfl ?_
    refine ax_iload_n (q := 23) (i := 1) dX12_gameOf_22 rfl rfl rfl ?_
    refine ax_iload_n (q := 24) (i := 1) dX12_gameOf_23 rfl rfl rfl ?_
    refine ax_iload_n (q := 25) (i := 2) dX12_gameOf_24 rfl rfl rfl ?_
    refine ax_iload_n (q := 26) (i := 3) dX12_gameOf_25 rfl rfl rfl ?_
    refine ax_fg (lv2 := [some (ax_r 0), none, none, none, some (ax_i a3), none]) ⟨rfl, rfl, trivial⟩ ?_
    exact ax_callVci (q := 29) (As := [ax_i a0, ax_i a0, ax_i a1, ax_i a2]) (st := [ax_i (σ.1 15 (Int32.toNatClampNeg ((0 : Int32) + a0)))]) dX12_gameOf_26 rfl lk_X12_446 shM_0 rfl rfl rfl rfl (Nat.le_of_ble_eq_true rfl) (k2 c1)
  · refine ax_aload_n (q := 6) (i := 0) dX12_gameOf_5 rfl rfl rfl ?_
    refine ax_iload_n (q := 7) (i := 1) dX12_gameOf_6 rfl rfl rfl ?_
    refine ax_iload_n (q := 8) (i := 2) dX12_gameOf_7 rfl rfl rfl ?_
    refine ax_iconst (q := 9) dX12_gameOf_8 rfl ki_0 ?_
    refine ax_callVfi (q := 12) (As := [ax_i a0, ax_i a1, ax_i (0 : Int32)]) (st := []) (x := (σ.1 15 84)) (σ2 := (ax_ui (ax_ui (ax_ui (ax_ui (ax_ui σ 15 84 ((σ.1 15 84) + (1 : Int32))) 15 (Int32.toNatClampNeg (((16 : Int32) + ((4 : Int32) * (σ.1 15 84))) + (0 : Int32))) a0) 15 (Int32.toNatClampNeg (((16 : Int32) + ((4 : Int32) * (σ.1 15 84))) + (1 : Int32))) a1) 15 (Int32.toNatClampNeg (((16 : Int32) + ((4 : Int32) * (σ.1 15 84))) + (2 : Int32))) (0 : Int32)) 15 (Int32.toNatClampNeg (((16 : Int32) + ((4 : Int32) * (σ.1 15 84))) + (3 : Int32))) (0 : Int32))) dX12_gameOf_9 rfl lk_X12_280 shM_0 rfl rfl rfl rfl (Nat.le_of_ble_eq_true rfl) (f_X12_string σ a0 a1 (0 : Int32) (ax_inl 84 268 (by decide) (by decide)) (h3 c1) (h4 c1) (h5 c1) (h6 c1) (d := d) (by omega)) ?_
    refine ax_popi (q := 13) dX12_gameOf_12 rfl ?_
    refine ax_aload_n (q := 14) (i := 0) dX12_gameOf_13 rfl rfl rfl ?_
    refine ax_get (q := 17) (k := 0) (j := 25) (v := ax_r 15) dX12_gameOf_14 rfl shM_0 rfl rfl rfl (by decide) fl_X12_52 ?_
    refine ax_iconst (q := 18) dX12_gameOf_17 rfl ki_0 ?_
    refine ax_iload_n (q := 19) (i := 1) dX12_gameOf_18 rfl rfl rfl ?_
    refine ax_iadd (q := 20) dX12_gameOf_19 rfl ?_
    refine ax_iald (q := 21) (a := (Int32.toNatClampNeg ((0 : Int32) + a0))) (v := ((ax_ui (ax_ui (ax_ui (ax_ui (ax_ui σ 15 84 ((σ.1 15 84) + (1 : Int32))) 15 (Int32.toNatClampNeg (((16 : Int32) + ((4 : Int32) * (σ.1 15 84))) + (0 : Int32))) a0) 15 (Int32.toNatClampNeg (((16 : Int32) + ((4 : Int32) * (σ.1 15 84))) + (1 : Int32))) a1) 15 (Int32.toNatClampNeg (((16 : Int32) + ((4 : Int32) * (σ.1 15 84))) + (2 : Int32))) (0 : Int32)) 15 (Int32.toNatClampNeg (((16 : Int32) + ((4 : Int32) * (σ.1 15 84))) + (3 : Int32))) (0 : Int32)).1 15 (Int32.toNatClampNeg ((0 : Int32) + a0)))) dX12_gameOf_20 rfl shM_15 (h7 c1) rfl rfl ?_
    refine ax_aload_n (q := 22) (i := 0) dX12_gameOf_21 rfl rfl rfl ?_
    refine ax_iload_n (q := 23) (i := 1) dX12_gameOf_22 rfl rfl rfl ?_
    refine ax_iload_n (q := 24) (i := 1) dX12_gameOf_23 rfl rfl rfl ?_
    refine ax_iload_n (q := 25) (i := 2) dX12_gameOf_24 rfl rfl rfl ?_
    refine ax_iload_n (q := 26) (i := 3) dX12_gameOf_25 rfl rfl rfl ?_
    refine ax_fg (lv2 := [some (ax_r 0), none, none, none, some (ax_i a3), none]) ⟨rfl, rfl, trivial⟩ ?_
    exact ax_callVci (q := 29) (As := [ax_i a0, ax_i a0, ax_i a1, ax_i a2]) (st := [ax_i ((ax_ui (ax_ui (ax_ui (ax_ui (ax_ui σ 15 84 ((σ.1 15 84) + (1 : Int32))) 15 (Int32.toNatClampNeg (((16 : Int32) + ((4 : Int32) * (σ.1 15 84))) + (0 : Int32))) a0) 15 (Int32.toNatClampNeg (((16 : Int32) + ((4 : Int32) * (σ.1 15 84))) + (1 : Int32))) a1) 15 (Int32.toNatClampNeg (((16 : Int32) + ((4 : Int32) * (σ.1 15 84))) + (2 : Int32))) (0 : Int32)) 15 (Int32.toNatClampNeg (((16 : Int32) + ((4 : Int32) * (σ.1 15 84))) + (3 : Int32))) (0 : Int32)).1 15 (Int32.toNatClampNeg ((0 : Int32) + a0)))]) dX12_gameOf_26 rfl lk_X12_446 shM_0 rfl rfl rfl rfl (Nat.le_of_ble_eq_true rfl) (k8 c1)
set_option maxRecDepth 20000 in
theorem s_X12_gameOf_29 {d : Nat} (hd : 0 ≤ d) {Q : Option ax_V → ax_S → Prop} (σ : ax_S) (x4 : Int32) (rr : Int32) (y0 : Int32) (k1 : Q (some (ax_i (y0 - rr))) (ax_ui σ 15 84 ((σ.1 15 84) - (if (¬ (x4 = 0)) then (1 : Int32) else 0)))) : ax_W shM (d + 1) mX12_gameOf Q 29 [some (ax_r 0), none, none, none, some (ax_i x4), none] [ax_i rr, ax_i y0] σ := by
  refine ax_isub (q := 30) dX12_gameOf_29 rfl ?_
  refine ax_istore (q := 32) (lv2 := [some (ax_r 0), none, none, none, some (ax_i x4), some (ax_i (y0 - rr))]) dX12_gameOf_30 rfl (by decide) rfl rfl ?_
  refine ax_aload_n (q := 33) (i := 0) dX12_gameOf_32 rfl rfl rfl ?_
  refine ax_get (q := 36) (k := 0) (j := 25) (v := ax_r 15) dX12_gameOf_33 rfl shM_0 rfl rfl rfl (by decide) fl_X12_52 ?_
  refine ax_bipush (q := 38) dX12_gameOf_36 rfl kb_84 ?_
  refine ax_dup2_11 (q := 39) dX12_gameOf_38 rfl ?_
  refine ax_iald (q := 40) (a := 84) (v := (σ.1 15 84)) dX12_gameOf_39 rfl shM_15 (ax_inl 84 268 (by decide) (by decide)) rfl rfl ?_
  refine ax_iload (q := 42) dX12_gameOf_40 rfl rfl ?_
  have K2 : ax_W shM (d + 1) mX12_gameOf Q 50 [some (ax_r 0), none, none, none, some (ax_i x4), some (ax_i (y0 - rr))] [ax_i (if (¬ (x4 = 0)) then (1 : Int32) else 0), ax_i (σ.1 15 84), ax_i (84 : Int32), ax_r 15] σ := by
    refine ax_isub (q := 51) dX12_gameOf_50 rfl ?_
    refine ax_iast (q := 52) (a := 84) dX12_gameOf_51 rfl shM_15 (ax_inl 84 268 (by decide) (by decide)) rfl ?_
    refine ax_iload (q := 54) dX12_gameOf_52 rfl rfl ?_
    exact ax_iret dX12_gameOf_54 rfl rfl k1
  refine ax_if_eq (tgt := 49) (q := 45) dX12_gameOf_42 (by decide) rfl (fun c1 => ?_) (fun c1 => ?_)
  · refine ax_iconst (q := 50) dX12_gameOf_49 rfl ki_0 ?_
    exact ax_cv (if_neg (fun y => y c1)) K2
  · refine ax_iconst (q := 46) dX12_gameOf_45 rfl ki_1 ?_
    refine ax_goto (tgt := 50) dX12_gameOf_46 (by decide) ?_
    exact ax_cv (if_pos c1) K2
set_option maxRecDepth 20000 in
theorem s_X12_areTwo_0 {d : Nat} (hd : 2 ≤ d) {Q : Option ax_V → ax_S → Prop} (σ : ax_S) (a0 : Int32) (a1 : Int32) (k1 : (¬ ((¬ (a0 < (0 : Int32))) ∧ (¬ (((σ.1 0 23) - (1 : Int32)) < a0)))) → Q (some (ax_i (0 : Int32))) σ) (k2 : ((¬ (a0 < (0 : Int32))) ∧ (¬ (((σ.1 0 23) - (1 : Int32)) < a0))) → (¬ ((¬ (a1 < (0 : Int32))) ∧ (¬ (((σ.1 0 23) - (1 : Int32)) < a1)))) → Q (some (ax_i (0 : Int32))) σ) (k3 : ((¬ (a0 < (0 : Int32))) ∧ (¬ (((σ.1 0 23) - (1 : Int32)) < a0))) → ((¬ (a1 < (0 : Int32))) ∧ (¬ (((σ.1 0 23) - (1 : Int32)) < a1))) → (a0 = a1) → Q (some (ax_i (0 : Int32))) σ) (h4 : ((¬ (a0 < (0 : Int32))) ∧ (¬ (((σ.1 0 23) - (1 : Int32)) < a0))) → ((¬ (a1 < (0 : Int32))) ∧ (¬ (((σ.1 0 23) - (1 : Int32)) < a1))) → (¬ (a0 = a1)) → vp_in (((4 : Int32) * a0) + (3 : Int32)) 32) (h5 : ((¬ (a0 < (0 : Int32))) ∧ (¬ (((σ.1 0 23) - (1 : Int32)) < a0))) → ((¬ (a1 < (0 : Int32))) ∧ (¬ (((σ.1 0 23) - (1 : Int32)) < a1))) → (¬ (a0 = a1)) → (¬ (¬ (σ.1 14 (Int32.toNatClampNeg (((4 : Int32) * a0) + (3 : Int32)))) = (2 : Int32))) → vp_in (((4 : Int32) * a1) + (3 : Int32)) 32) (k6 : ((¬ (a0 < (0 : Int32))) ∧ (¬ (((σ.1 0 23) - (1 : Int32)) < a0))) → ((¬ (a1 < (0 : Int32))) ∧ (¬ (((σ.1 0 23) - (1 : Int32)) < a1))) → (¬ (a0 = a1)) → ((¬ (¬ (σ.1 14 (Int32.toNatClampNeg (((4 : Int32) * a0) + (3 : Int32)))) = (2 : Int32))) ∧ (¬ (¬ (σ.1 14 (Int32.toNatClampNeg (((4 : Int32) * a1) + (3 : Int32)))) = (2 : Int32)))) → Q (some (ax_i (0 : Int32))) σ) (k7 : ((¬ (a0 < (0 : Int32))) ∧ (¬ (((σ.1 0 23) - (1 : Int32)) < a0))) → ((¬ (a1 < (0 : Int32))) ∧ (¬ (((σ.1 0 23) - (1 : Int32)) < a1))) → (¬ (a0 = a1)) → (¬ ((¬ (¬ (σ.1 14 (Int32.toNatClampNeg (((4 : Int32) * a0) + (3 : Int32)))) = (2 : Int32))) ∧ (¬ (¬ (σ.1 14 (Int32.toNatClampNeg (((4 : Int32) * a1) + (3 : Int32)))) = (2 : Int32))))) → ax_Ct shM d mX12_areTied [ax_r 0, ax_i a0, ax_i a1] (fun r u => ∃ x : Int32, r = some (ax_i x) ∧ ax_W shM (d + 1) mX12_areTwo Q 36 [none, none, none] (ax_i x :: []) u) σ) : ax_W shM (d + 1) mX12_areTwo Q 0 [some (ax_r 0), some (ax_i a0), some (ax_i a1)] [] σ := by
  refine ax_aload_n (q := 1) (i := 0) dX12_areTwo_0 rfl rfl rfl ?_
  refine ax_iload_n (q := 2) (i := 1) dX12_areTwo_1 rfl rfl rfl ?_
  refine ax_callVfi (q := 5) (As := [ax_i a0]) (st := []) (x := (if ((¬ (a0 < (0 : Int32))) ∧ (¬ (((σ.1 0 23) - (1 : Int32)) < a0))) then (1 : Int32) else 0)) (σ2 := σ) dX12_areTwo_2 rfl lk_X12_342 shM_0 rfl rfl rfl rfl (Nat.le_of_ble_eq_true rfl) (f_X12_isHouse σ a0  (d := d) (by omega)) ?_
  refine ax_if_eqB (tgt := 43) (q := 8) dX12_areTwo_5 (by decide) rfl (fun c1 => ?_) (fun c1 => ?_)
  · refine ax_iconst (q := 44) dX12_areTwo_43 rfl ki_0 ?_
    exact ax_iret dX12_areTwo_44 rfl rfl (k1 c1)
  · refine ax_aload_n (q := 9) (i := 0) dX12_areTwo_8 rfl rfl rfl ?_
    refine ax_iload_n (q := 10) (i := 2) dX12_areTwo_9 rfl rfl rfl ?_
    refine ax_callVfi (q := 13) (As := [ax_i a1]) (st := []) (x := (if ((¬ (a1 < (0 : Int32))) ∧ (¬ (((σ.1 0 23) - (1 : Int32)) < a1))) then (1 : Int32) else 0)) (σ2 := σ) dX12_areTwo_10 rfl lk_X12_342 shM_0 rfl rfl rfl rfl (Nat.le_of_ble_eq_true rfl) (f_X12_isHouse σ a1  (d := d) (by omega)) ?_
    refine ax_if_eqB (tgt := 43) (q := 16) dX12_areTwo_13 (by decide) rfl (fun c2 => ?_) (fun c2 => ?_)
    · refine ax_iconst (q := 44) dX12_areTwo_43 rfl ki_0 ?_
      exact ax_iret dX12_areTwo_44 rfl rfl (k2 c1 c2)
    · refine ax_iload_n (q := 17) (i := 1) dX12_areTwo_16 rfl rfl rfl ?_
      refine ax_iload_n (q := 18) (i := 2) dX12_areTwo_17 rfl rfl rfl ?_
      refine ax_icmp_eq (tgt := 43) (q := 21) dX12_areTwo_18 (by decide) rfl (fun c3 => ?_) (fun c3 => ?_)
      · refine ax_iconst (q := 44) dX12_areTwo_43 rfl ki_0 ?_
        exact ax_iret dX12_areTwo_44 rfl rfl (k3 c1 c2 c3)
      · refine ax_aload_n (q := 22) (i := 0) dX12_areTwo_21 rfl rfl rfl ?_
        refine ax_iload_n (q := 23) (i := 1) dX12_areTwo_22 rfl rfl rfl ?_
        refine ax_iload_n (q := 24) (i := 2) dX12_areTwo_23 rfl rfl rfl ?_
        refine ax_callVfi (q := 27) (As := [ax_i a0, ax_i a1]) (st := []) (x := (if ((¬ (¬ (σ.1 14 (Int32.toNatClampNeg (((4 : Int32) * a0) + (3 : Int32)))) = (2 : Int32))) ∧ (¬ (¬ (σ.1 14 (Int32.toNatClampNeg (((4 : Int32) * a1) + (3 : Int32)))) = (2 : Int32)))) then (1 : Int32) else 0)) (σ2 := σ) dX12_areTwo_24 rfl lk_X12_369 shM_0 rfl rfl rfl rfl (Nat.le_of_ble_eq_true rfl) (f_X12_areChapels σ a0 a1 (h4 c1 c2 c3) (h5 c1 c2 c3) (d := d) (by omega)) ?_
        refine ax_if_neB (tgt := 43) (q := 30) dX12_areTwo_27 (by decide) rfl (fun c4 => ?_) (fun c4 => ?_)
        · refine ax_iconst (q := 44) dX12_areTwo_43 rfl ki_0 ?_
          exact ax_iret dX12_areTwo_44 rfl rfl (k6 c1 c2 c3 c4)
        · refine ax_aload_n (q := 31) (i := 0) dX12_areTwo_30 rfl rfl rfl ?_
          refine ax_iload_n (q := 32) (i := 1) dX12_areTwo_31 rfl rfl rfl ?_
          refine ax_iload_n (q := 33) (i := 2) dX12_areTwo_32 rfl rfl rfl ?_
          refine ax_fg (lv2 := [none, none, none]) trivial ?_
          exact ax_callVci (q := 36) (As := [ax_i a0, ax_i a1]) (st := []) dX12_areTwo_33 rfl lk_X12_366 shM_0 rfl rfl rfl rfl (Nat.le_of_ble_eq_true rfl) (k7 c1 c2 c3 c4)
set_option maxRecDepth 20000 in
theorem s_X12_areTwo_36 {d : Nat} (hd : 0 ≤ d) {Q : Option ax_V → ax_S → Prop} (σ : ax_S) (rr : Int32) (k1 : Q (some (ax_i (if (¬ (¬ rr = 0)) then (1 : Int32) else 0))) σ) : ax_W shM (d + 1) mX12_areTwo Q 36 [none, none, none] [ax_i rr] σ := by
  have K2 : ax_W shM (d + 1) mX12_areTwo Q 44 [none, none, none] [ax_i (if (¬ (¬ rr = 0)) then (1 : Int32) else 0)] σ := by
    exact ax_iret dX12_areTwo_44 rfl (ax_nb _) k1
  refine ax_if_ne (tgt := 43) (q := 39) dX12_areTwo_36 (by decide) rfl (fun c1 => ?_) (fun c1 => ?_)
  · refine ax_iconst (q := 44) dX12_areTwo_43 rfl ki_0 ?_
    exact ax_cv (if_neg (fun y => y c1)) K2
  · refine ax_iconst (q := 40) dX12_areTwo_39 rfl ki_1 ?_
    refine ax_goto (tgt := 44) dX12_areTwo_40 (by decide) ?_
    exact ax_cv (if_pos c1) K2
set_option maxRecDepth 20000 in
theorem s_X12_game_0 {d : Nat} (hd : 0 ≤ d) {Q : Option ax_V → ax_S → Prop} (σ : ax_S) (a0 : Int32) (a1 : Int32) (a2 : Int32) (a3 : Int32) (a4 : Int32) (a5 : Int32) (k1 : ax_Ct shM d mX12_areTwo [ax_r 0, ax_i a0, ax_i a1] (fun r u => ∃ x : Int32, r = some (ax_i x) ∧ ax_W shM (d + 1) mX12_game Q 6 [some (ax_r 0), some (ax_i a0), some (ax_i a1), some (ax_i a2), some (ax_i a3), some (ax_i a4), some (ax_i a5), none] (ax_i x :: []) u) σ) : ax_W shM (d + 1) mX12_game Q 0 [some (ax_r 0), some (ax_i a0), some (ax_i a1), some (ax_i a2), some (ax_i a3), some (ax_i a4), some (ax_i a5), none] [] σ := by
  refine ax_aload_n (q := 1) (i := 0) dX12_game_0 rfl rfl rfl ?_
  refine ax_iload_n (q := 2) (i := 1) dX12_game_1 rfl rfl rfl ?_
  refine ax_iload_n (q := 3) (i := 2) dX12_game_2 rfl rfl rfl ?_
  exact ax_callVci (q := 6) (As := [ax_i a0, ax_i a1]) (st := []) dX12_game_3 rfl lk_X12_450 shM_0 rfl rfl rfl rfl (Nat.le_of_ble_eq_true rfl) k1
set_option maxRecDepth 20000 in
theorem s_X12_game_6 {d : Nat} (hd : 2 ≤ d) {Q : Option ax_V → ax_S → Prop} (σ : ax_S) (x1 : Int32) (x2 : Int32) (x3 : Int32) (x4 : Int32) (x5 : Int32) (x6 : Int32) (rr : Int32) (k1 : (rr = 0) → Q (some (ax_i (-1000000 : Int32))) σ) (k2 : (¬ (rr = 0)) → (¬ ((¬ (x3 < (1 : Int32))) ∧ (¬ ((999 : Int32) < x3)))) → Q (some (ax_i (-1000000 : Int32))) σ) (k3 : (¬ (rr = 0)) → ((¬ (x3 < (1 : Int32))) ∧ (¬ ((999 : Int32) < x3))) → (¬ ((¬ (x4 < (0 : Int32))) ∧ (¬ ((1 : Int32) < x4)))) → Q (some (ax_i (-1000000 : Int32))) σ) (k4 : (¬ (rr = 0)) → ((¬ (x3 < (1 : Int32))) ∧ (¬ ((999 : Int32) < x3))) → ((¬ (x4 < (0 : Int32))) ∧ (¬ ((1 : Int32) < x4))) → (¬ ((¬ (x5 < (0 : Int32))) ∧ (¬ ((1 : Int32) < x5)))) → Q (some (ax_i (-1000000 : Int32))) σ) (k5 : (¬ (rr = 0)) → ((¬ (x3 < (1 : Int32))) ∧ (¬ ((999 : Int32) < x3))) → ((¬ (x4 < (0 : Int32))) ∧ (¬ ((1 : Int32) < x4))) → ((¬ (x5 < (0 : Int32))) ∧ (¬ ((1 : Int32) < x5))) → ((¬ (x6 < (0 : Int32))) ∧ (¬ ((1 : Int32) < x6))) → (¬ x6 = 0) → ax_Ct shM d mX12_gameOf [ax_r 0, ax_i x2, ax_i x1, ax_i x3, ax_i (if ((¬ (¬ x4 = (1 : Int32))) ∧ (¬ (¬ x5 = (1 : Int32)))) then (1 : Int32) else 0)] (fun r u => ∃ x : Int32, r = some (ax_i x) ∧ ax_W shM (d + 1) mX12_game Q 95 [none, none, none, none, none, none, none, none] (ax_i x :: []) u) σ) (k6 : (¬ (rr = 0)) → ((¬ (x3 < (1 : Int32))) ∧ (¬ ((999 : Int32) < x3))) → ((¬ (x4 < (0 : Int32))) ∧ (¬ ((1 : Int32) < x4))) → ((¬ (x5 < (0 : Int32))) ∧ (¬ ((1 : Int32) < x5))) → ((¬ (x6 < (0 : Int32))) ∧ (¬ ((1 : Int32) < x6))) → (¬ (¬ x6 = 0)) → ax_Ct shM d mX12_gameOf [ax_r 0, ax_i x1, ax_i x2, ax_i x3, ax_i (if ((¬ (¬ x4 = (1 : Int32))) ∧ (¬ (¬ x5 = (1 : Int32)))) then (1 : Int32) else 0)] (fun r u => ∃ x : Int32, r = some (ax_i x) ∧ ax_W shM (d + 1) mX12_game Q 83 [none, none, none, none, none, none, none, none] (ax_i x :: []) u) σ) (k7 : (¬ (rr = 0)) → ((¬ (x3 < (1 : Int32))) ∧ (¬ ((999 : Int32) < x3))) → ((¬ (x4 < (0 : Int32))) ∧ (¬ ((1 : Int32) < x4))) → ((¬ (x5 < (0 : Int32))) ∧ (¬ ((1 : Int32) < x5))) → (¬ ((¬ (x6 < (0 : Int32))) ∧ (¬ ((1 : Int32) < x6)))) → Q (some (ax_i (-1000000 : Int32))) σ) : ax_W shM (d + 1) mX12_game Q 6 [some (ax_r 0), some (ax_i x1), some (ax_i x2), some (ax_i x3), some (ax_i x4), some (ax_i x5), some (ax_i x6), none] [ax_i rr] σ := by
  refine ax_if_eq (tgt := 46) (q := 9) dX12_game_6 (by decide) rfl (fun c1 => ?_) (fun c1 => ?_)
  · refine ax_ldcw (q := 49) dX12_game_46 rfl kc_X12_453 ?_
    exact ax_iret dX12_game_49 rfl rfl (k1 c1)
  · refine ax_iload_n (q := 10) (i := 3) dX12_game_9 rfl rfl rfl ?_
    refine ax_callSfi (q := 13) (As := [ax_i x3]) (st := []) (x := (if ((¬ (x3 < (1 : Int32))) ∧ (¬ ((999 : Int32) < x3))) then (1 : Int32) else 0)) (σ2 := σ) dX12_game_10 rfl lk_X12_351 rfl rfl (Nat.le_of_ble_eq_true rfl) (f_X12_isForce (sh := shM) σ x3  (d := d) (by omega)) ?_
    refine ax_if_eqB (tgt := 46) (q := 16) dX12_game_13 (by decide) rfl (fun c2 => ?_) (fun c2 => ?_)
    · refine ax_ldcw (q := 49) dX12_game_46 rfl kc_X12_453 ?_
      exact ax_iret dX12_game_49 rfl rfl (k2 c1 c2)
    · refine ax_iload (q := 18) dX12_game_16 rfl rfl ?_
      refine ax_iconst (q := 19) dX12_game_18 rfl ki_0 ?_
      refine ax_iconst (q := 20) dX12_game_19 rfl ki_1 ?_
      refine ax_callSfi (q := 23) (As := [ax_i x4, ax_i (0 : Int32), ax_i (1 : Int32)]) (st := []) (x := (if ((¬ (x4 < (0 : Int32))) ∧ (¬ ((1 : Int32) < x4))) then (1 : Int32) else 0)) (σ2 := σ) dX12_game_20 rfl lk_X12_223 rfl rfl (Nat.le_of_ble_eq_true rfl) (f_X12_in (sh := shM) σ x4 (0 : Int32) (1 : Int32)  (d := d) (by omega)) ?_
      refine ax_if_eqB (tgt := 46) (q := 26) dX12_game_23 (by decide) rfl (fun c3 => ?_) (fun c3 => ?_)
      · refine ax_ldcw (q := 49) dX12_game_46 rfl kc_X12_453 ?_
        exact ax_iret dX12_game_49 rfl rfl (k3 c1 c2 c3)
      · refine ax_iload (q := 28) dX12_game_26 rfl rfl ?_
        refine ax_iconst (q := 29) dX12_game_28 rfl ki_0 ?_
        refine ax_iconst (q := 30) dX12_game_29 rfl ki_1 ?_
        refine ax_callSfi (q := 33) (As := [ax_i x5, ax_i (0 : Int32), ax_i (1 : Int32)]) (st := []) (x := (if ((¬ (x5 < (0 : Int32))) ∧ (¬ ((1 : Int32) < x5))) then (1 : Int32) else 0)) (σ2 := σ) dX12_game_30 rfl lk_X12_223 rfl rfl (Nat.le_of_ble_eq_true rfl) (f_X12_in (sh := shM) σ x5 (0 : Int32) (1 : Int32)  (d := d) (by omega)) ?_
        refine ax_if_eqB (tgt := 46) (q := 36) dX12_game_33 (by decide) rfl (fun c4 => ?_) (fun c4 => ?_)
        · refine ax_ldcw (q := 49) dX12_game_46 rfl kc_X12_453 ?_
          exact ax_iret dX12_game_49 rfl rfl (k4 c1 c2 c3 c4)
        · refine ax_iload (q := 38) dX12_game_36 rfl rfl ?_
          refine ax_iconst (q := 39) dX12_game_38 rfl ki_0 ?_
          refine ax_iconst (q := 40) dX12_game_39 rfl ki_1 ?_
          refine ax_callSfi (q := 43) (As := [ax_i x6, ax_i (0 : Int32), ax_i (1 : Int32)]) (st := []) (x := (if ((¬ (x6 < (0 : Int32))) ∧ (¬ ((1 : Int32) < x6))) then (1 : Int32) else 0)) (σ2 := σ) dX12_game_40 rfl lk_X12_223 rfl rfl (Nat.le_of_ble_eq_true rfl) (f_X12_in (sh := shM) σ x6 (0 : Int32) (1 : Int32)  (d := d) (by omega)) ?_
          refine ax_if_neB (tgt := 50) (q := 46) dX12_game_43 (by decide) rfl (fun c5 => ?_) (fun c5 => ?_)
          · refine ax_iload (q := 52) dX12_game_50 rfl rfl ?_
            refine ax_iconst (q := 53) dX12_game_52 rfl ki_1 ?_
            have K8 : ax_W shM (d + 1) mX12_game Q 67 [some (ax_r 0), some (ax_i x1), some (ax_i x2), some (ax_i x3), some (ax_i x4), some (ax_i x5), some (ax_i x6), none] [ax_i (if ((¬ (¬ x4 = (1 : Int32))) ∧ (¬ (¬ x5 = (1 : Int32)))) then (1 : Int32) else 0)] σ := by
              refine ax_istore (q := 69) (lv2 := [some (ax_r 0), some (ax_i x1), some (ax_i x2), some (ax_i x3), some (ax_i x4), some (ax_i x5), some (ax_i x6), some (ax_i (if ((¬ (¬ x4 = (1 : Int32))) ∧ (¬ (¬ x5 = (1 : Int32)))) then (1 : Int32) else 0))]) dX12_game_67 rfl (by decide) rfl rfl ?_
              refine ax_iload (q := 71) dX12_game_69 rfl rfl ?_
              refine ax_if_ne (tgt := 86) (q := 74) dX12_game_71 (by decide) rfl (fun c9 => ?_) (fun c9 => ?_)
              · refine ax_aload_n (q := 87) (i := 0) dX12_game_86 rfl rfl rfl ?_
                refine ax_iload_n (q := 88) (i := 2) dX12_game_87 rfl rfl rfl ?_
                refine ax_iload_n (q := 89) (i := 1) dX12_game_88 rfl rfl rfl ?_
                refine ax_iload_n (q := 90) (i := 3) dX12_game_89 rfl rfl rfl ?_
                refine ax_iload (q := 92) dX12_game_90 rfl rfl ?_
                refine ax_fg (lv2 := [none, none, none, none, none, none, none, none]) trivial ?_
                exact ax_callVci (q := 95) (As := [ax_i x2, ax_i x1, ax_i x3, ax_i (if ((¬ (¬ x4 = (1 : Int32))) ∧ (¬ (¬ x5 = (1 : Int32)))) then (1 : Int32) else 0)]) (st := []) dX12_game_92 rfl lk_X12_454 shM_0 rfl rfl rfl rfl (Nat.le_of_ble_eq_true rfl) (k5 c1 c2 c3 c4 c5 c9)
              · refine ax_aload_n (q := 75) (i := 0) dX12_game_74 rfl rfl rfl ?_
                refine ax_iload_n (q := 76) (i := 1) dX12_game_75 rfl rfl rfl ?_
                refine ax_iload_n (q := 77) (i := 2) dX12_game_76 rfl rfl rfl ?_
                refine ax_iload_n (q := 78) (i := 3) dX12_game_77 rfl rfl rfl ?_
                refine ax_iload (q := 80) dX12_game_78 rfl rfl ?_
                refine ax_fg (lv2 := [none, none, none, none, none, none, none, none]) trivial ?_
                exact ax_callVci (q := 83) (As := [ax_i x1, ax_i x2, ax_i x3, ax_i (if ((¬ (¬ x4 = (1 : Int32))) ∧ (¬ (¬ x5 = (1 : Int32)))) then (1 : Int32) else 0)]) (st := []) dX12_game_80 rfl lk_X12_454 shM_0 rfl rfl rfl rfl (Nat.le_of_ble_eq_true rfl) (k6 c1 c2 c3 c4 c5 c9)
            refine ax_icmp_ne (tgt := 66) (q := 56) dX12_game_53 (by decide) rfl (fun c6 => ?_) (fun c6 => ?_)
            · refine ax_iconst (q := 67) dX12_game_66 rfl ki_0 ?_
              exact ax_cv (if_neg (fun z => (fun y => y c6) z.1)) K8
            · refine ax_iload (q := 58) dX12_game_56 rfl rfl ?_
              refine ax_iconst (q := 59) dX12_game_58 rfl ki_1 ?_
              refine ax_icmp_ne (tgt := 66) (q := 62) dX12_game_59 (by decide) rfl (fun c7 => ?_) (fun c7 => ?_)
              · refine ax_iconst (q := 67) dX12_game_66 rfl ki_0 ?_
                exact ax_cv (if_neg (fun z => (fun y => y c7) z.2)) K8
              · refine ax_iconst (q := 63) dX12_game_62 rfl ki_1 ?_
                refine ax_goto (tgt := 67) dX12_game_63 (by decide) ?_
                exact ax_cv (if_pos ⟨c6, c7⟩) K8
          · refine ax_ldcw (q := 49) dX12_game_46 rfl kc_X12_453 ?_
            exact ax_iret dX12_game_49 rfl rfl (k7 c1 c2 c3 c4 c5)
set_option maxRecDepth 20000 in
theorem s_X12_game_83 {d : Nat} (hd : 0 ≤ d) {Q : Option ax_V → ax_S → Prop} (σ : ax_S) (rr : Int32) (k1 : Q (some (ax_i rr)) σ) : ax_W shM (d + 1) mX12_game Q 83 [none, none, none, none, none, none, none, none] [ax_i rr] σ := by
  refine ax_goto (tgt := 95) dX12_game_83 (by decide) ?_
  exact ax_iret dX12_game_95 rfl rfl k1
set_option maxRecDepth 20000 in
theorem s_X12_game_95 {d : Nat} (hd : 0 ≤ d) {Q : Option ax_V → ax_S → Prop} (σ : ax_S) (rr : Int32) (k1 : Q (some (ax_i rr)) σ) : ax_W shM (d + 1) mX12_game Q 95 [none, none, none, none, none, none, none, none] [ax_i rr] σ := by
  exact ax_iret dX12_game_95 rfl rfl k1
