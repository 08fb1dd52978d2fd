set_option maxRecDepth 20000 in
theorem s_X11_house_0 {d : Nat} (hd : 1 ≤ d) {Q : Option ax_V → ax_S → Prop} (σ : ax_S) (a0 : Int32) (a1 : Int32) (h1 : ((¬ (a0 < 0)) ∧ (¬ ((σ.1 5 9) ≤ a0))) → (a1 = (0 : Int32)) → vp_in a0 8) (k2 : ((¬ (a0 < 0)) ∧ (¬ ((σ.1 5 9) ≤ a0))) → (a1 = (0 : Int32)) → Q (some (ax_i (σ.1 23 (Int32.toNatClampNeg a0)))) σ) (h3 : ((¬ (a0 < 0)) ∧ (¬ ((σ.1 5 9) ≤ a0))) → (¬ (a1 = (0 : Int32))) → (a1 = (1 : Int32)) → vp_in a0 8) (k4 : ((¬ (a0 < 0)) ∧ (¬ ((σ.1 5 9) ≤ a0))) → (¬ (a1 = (0 : Int32))) → (a1 = (1 : Int32)) → Q (some (ax_i (σ.1 24 (Int32.toNatClampNeg a0)))) σ) (h5 : ((¬ (a0 < 0)) ∧ (¬ ((σ.1 5 9) ≤ a0))) → (¬ (a1 = (0 : Int32))) → (¬ (a1 = (1 : Int32))) → (a1 = (2 : Int32)) → vp_in a0 8) (k6 : ((¬ (a0 < 0)) ∧ (¬ ((σ.1 5 9) ≤ a0))) → (¬ (a1 = (0 : Int32))) → (¬ (a1 = (1 : Int32))) → (a1 = (2 : Int32)) → Q (some (ax_i (σ.1 25 (Int32.toNatClampNeg a0)))) σ) (h7 : ((¬ (a0 < 0)) ∧ (¬ ((σ.1 5 9) ≤ a0))) → (¬ (a1 = (0 : Int32))) → (¬ (a1 = (1 : Int32))) → (¬ (a1 = (2 : Int32))) → (a1 = (3 : Int32)) → vp_in a0 8) (k8 : ((¬ (a0 < 0)) ∧ (¬ ((σ.1 5 9) ≤ a0))) → (¬ (a1 = (0 : Int32))) → (¬ (a1 = (1 : Int32))) → (¬ (a1 = (2 : Int32))) → (a1 = (3 : Int32)) → Q (some (ax_i (σ.1 26 (Int32.toNatClampNeg a0)))) σ) (h9 : ((¬ (a0 < 0)) ∧ (¬ ((σ.1 5 9) ≤ a0))) → (¬ (a1 = (0 : Int32))) → (¬ (a1 = (1 : Int32))) → (¬ (a1 = (2 : Int32))) → (¬ (a1 = (3 : Int32))) → (a1 = (4 : Int32)) → vp_in a0 8) (k10 : ((¬ (a0 < 0)) ∧ (¬ ((σ.1 5 9) ≤ a0))) → (¬ (a1 = (0 : Int32))) → (¬ (a1 = (1 : Int32))) → (¬ (a1 = (2 : Int32))) → (¬ (a1 = (3 : Int32))) → (a1 = (4 : Int32)) → Q (some (ax_i (σ.1 27 (Int32.toNatClampNeg a0)))) σ) (k11 : ((¬ (a0 < 0)) ∧ (¬ ((σ.1 5 9) ≤ a0))) → (¬ (a1 = (0 : Int32))) → (¬ (a1 = (1 : Int32))) → (¬ (a1 = (2 : Int32))) → (¬ (a1 = (3 : Int32))) → (¬ (a1 = (4 : Int32))) → (a1 = (5 : Int32)) → ax_Ct shC d mX0_live [ax_r 5] (fun r u => ∃ x : Int32, r = some (ax_i x) ∧ ax_W shC (d + 1) mX11_house Q 117 [none, some (ax_i a0), none] (ax_i x :: [ax_r 5]) u) σ) (k12 : ((¬ (a0 < 0)) ∧ (¬ ((σ.1 5 9) ≤ a0))) → (¬ (a1 = (0 : Int32))) → (¬ (a1 = (1 : Int32))) → (¬ (a1 = (2 : Int32))) → (¬ (a1 = (3 : Int32))) → (¬ (a1 = (4 : Int32))) → (¬ (a1 = (5 : Int32))) → ax_W shC (d + 1) mX11_house Q 125 [none, none, none] [] σ) (k13 : (¬ ((¬ (a0 < 0)) ∧ (¬ ((σ.1 5 9) ≤ a0)))) → ax_W shC (d + 1) mX11_house Q 8 [none, none, none] [] σ) : ax_W shC (d + 1) mX11_house Q 0 [some (ax_r 0), some (ax_i a0), some (ax_i a1)] [] σ := by
  refine ax_aload_n (q := 1) (i := 0) dX11_house_0 rfl rfl rfl ?_
  refine ax_iload_n (q := 2) (i := 1) dX11_house_1 rfl rfl rfl ?_
  refine ax_callVfi (q := 5) (As := [ax_i a0]) (st := []) (x := (if ((¬ (a0 < 0)) ∧ (¬ ((σ.1 5 9) ≤ a0))) then (1 : Int32) else 0)) (σ2 := σ) dX11_house_2 rfl lk_X11_160 shC_0 rfl rfl rfl rfl (Nat.le_of_ble_eq_true rfl) (f_X11_isHouse σ a0  (d := d) (by omega)) ?_
  refine ax_if_neB (tgt := 18) (q := 8) dX11_house_5 (by decide) rfl (fun c1 => ?_) (fun c1 => ?_)
  · refine ax_iload_n (q := 19) (i := 2) dX11_house_18 rfl rfl rfl ?_
    by_cases c2 : (a1 = (0 : Int32))
    · refine ax_tableIn (tgt := 56) (off := 37) dX11_house_19 (by rw [c2]; decide) (by rw [c2]; decide) (by rw [c2]; decide) (by decide) ?_
      refine ax_aload_n (q := 57) (i := 0) dX11_house_56 rfl rfl rfl ?_
      refine ax_get (q := 60) (k := 0) (j := 4) (v := ax_r 5) dX11_house_57 rfl shC_0 rfl rfl rfl (by decide) fl_X11_42 ?_
      refine ax_get (q := 63) (k := 5) (j := 0) (v := ax_r 23) dX11_house_60 rfl shC_5 rfl rfl rfl (by decide) fl_X11_170 ?_
      refine ax_iload_n (q := 64) (i := 1) dX11_house_63 rfl rfl rfl ?_
      refine ax_iald (q := 65) (a := (Int32.toNatClampNeg a0)) (v := (σ.1 23 (Int32.toNatClampNeg a0))) dX11_house_64 rfl shC_23 (h1 c1 c2) rfl rfl ?_
      exact ax_iret dX11_house_65 rfl rfl (k2 c1 c2)
    by_cases c3 : (a1 = (1 : Int32))
    · refine ax_tableIn (tgt := 66) (off := 47) dX11_house_19 (by rw [c3]; decide) (by rw [c3]; decide) (by rw [c3]; decide) (by decide) ?_
      refine ax_aload_n (q := 67) (i := 0) dX11_house_66 rfl rfl rfl ?_
      refine ax_get (q := 70) (k := 0) (j := 4) (v := ax_r 5) dX11_house_67 rfl shC_0 rfl rfl rfl (by decide) fl_X11_42 ?_
      refine ax_get (q := 73) (k := 5) (j := 1) (v := ax_r 24) dX11_house_70 rfl shC_5 rfl rfl rfl (by decide) fl_X11_173 ?_
      refine ax_iload_n (q := 74) (i := 1) dX11_house_73 rfl rfl rfl ?_
      refine ax_iald (q := 75) (a := (Int32.toNatClampNeg a0)) (v := (σ.1 24 (Int32.toNatClampNeg a0))) dX11_house_74 rfl shC_24 (h3 c1 c2 c3) rfl rfl ?_
      exact ax_iret dX11_house_75 rfl rfl (k4 c1 c2 c3)
    by_cases c4 : (a1 = (2 : Int32))
    · refine ax_tableIn (tgt := 76) (off := 57) dX11_house_19 (by rw [c4]; decide) (by rw [c4]; decide) (by rw [c4]; decide) (by decide) ?_
      refine ax_aload_n (q := 77) (i := 0) dX11_house_76 rfl rfl rfl ?_
      refine ax_get (q := 80) (k := 0) (j := 4) (v := ax_r 5) dX11_house_77 rfl shC_0 rfl rfl rfl (by decide) fl_X11_42 ?_
      refine ax_get (q := 83) (k := 5) (j := 2) (v := ax_r 25) dX11_house_80 rfl shC_5 rfl rfl rfl (by decide) fl_X11_176 ?_
      refine ax_iload_n (q := 84) (i := 1) dX11_house_83 rfl rfl rfl ?_
      refine ax_iald (q := 85) (a := (Int32.toNatClampNeg a0)) (v := (σ.1 25 (Int32.toNatClampNeg a0))) dX11_house_84 rfl shC_25 (h5 c1 c2 c3 c4) rfl rfl ?_
      exact ax_iret dX11_house_85 rfl rfl (k6 c1 c2 c3 c4)
    by_cases c5 : (a1 = (3 : Int32))
    · refine ax_tableIn (tgt := 86) (off := 67) dX11_house_19 (by rw [c5]; decide) (by rw [c5]; decide) (by rw [c5]; decide) (by decide) ?_
      refine ax_aload_n (q := 87) (i := 0) dX11_house_86 rfl rfl rfl ?_
      refine ax_get (q := 90) (k := 0) (j := 4) (v := ax_r 5) dX11_house_87 rfl shC_0 rfl rfl rfl (by decide) fl_X11_42 ?_
      refine ax_get (q := 93) (k := 5) (j := 3) (v := ax_r 26) dX11_house_90 rfl shC_5 rfl rfl rfl (by decide) fl_X11_179 ?_
      refine ax_iload_n (q := 94) (i := 1) dX11_house_93 rfl rfl rfl ?_
      refine ax_iald (q := 95) (a := (Int32.toNatClampNeg a0)) (v := (σ.1 26 (Int32.toNatClampNeg a0))) dX11_house_94 rfl shC_26 (h7 c1 c2 c3 c4 c5) rfl rfl ?_
      exact ax_iret dX11_house_95 rfl rfl (k8 c1 c2 c3 c4 c5)
    by_cases c6 : (a1 = (4 : Int32))
    · refine ax_tableIn (tgt := 96) (off := 77) dX11_house_19 (by rw [c6]; decide) (by rw [c6]; decide) (by rw [c6]; decide) (by decide) ?_
      refine ax_aload_n (q := 97) (i := 0) dX11_house_96 rfl rfl rfl ?_
      refine ax_get (q := 100) (k := 0) (j := 4) (v := ax_r 5) dX11_house_97 rfl shC_0 rfl rfl rfl (by decide) fl_X11_42 ?_
      refine ax_get (q := 103) (k := 5) (j := 4) (v := ax_r 27) dX11_house_100 rfl shC_5 rfl rfl rfl (by decide) fl_X11_182 ?_
      refine ax_iload_n (q := 104) (i := 1) dX11_house_103 rfl rfl rfl ?_
      refine ax_iald (q := 105) (a := (Int32.toNatClampNeg a0)) (v := (σ.1 27 (Int32.toNatClampNeg a0))) dX11_house_104 rfl shC_27 (h9 c1 c2 c3 c4 c5 c6) rfl rfl ?_
      exact ax_iret dX11_house_105 rfl rfl (k10 c1 c2 c3 c4 c5 c6)
    by_cases c7 : (a1 = (5 : Int32))
    · refine ax_tableIn (tgt := 106) (off := 87) dX11_house_19 (by rw [c7]; decide) (by rw [c7]; decide) (by rw [c7]; decide) (by decide) ?_
      refine ax_aload_n (q := 107) (i := 0) dX11_house_106 rfl rfl rfl ?_
      refine ax_get (q := 110) (k := 0) (j := 4) (v := ax_r 5) dX11_house_107 rfl shC_0 rfl rfl rfl (by decide) fl_X11_42 ?_
      refine ax_aload_n (q := 111) (i := 0) dX11_house_110 rfl rfl rfl ?_
      refine ax_get (q := 114) (k := 0) (j := 4) (v := ax_r 5) dX11_house_111 rfl shC_0 rfl rfl rfl (by decide) fl_X11_42 ?_
      refine ax_fg (lv2 := [none, some (ax_i a0), none]) ⟨rfl, trivial⟩ ?_
      exact ax_callVci (q := 117) (As := []) (st := [ax_r 5]) dX11_house_114 rfl lk_X11_185 shC_5 rfl rfl rfl rfl (Nat.le_of_ble_eq_true rfl) (k11 c1 c2 c3 c4 c5 c6 c7)
    · refine ax_tableOut (tgt := 125) dX11_house_19 (by have z0 := ax_net (k := 0) (0) (by decide) c2; have z1 := ax_net (k := 1) (1) (by decide) c3; have z2 := ax_net (k := 2) (2) (by decide) c4; have z3 := ax_net (k := 3) (3) (by decide) c5; have z4 := ax_net (k := 4) (4) (by decide) c6; have z5 := ax_net (k := 5) (5) (by decide) c7; omega) (by decide) ?_
      refine ax_fg (lv2 := [none, none, none]) trivial ?_
      exact (k12 c1 c2 c3 c4 c5 c6 c7)
  · refine ax_fg (lv2 := [none, none, none]) trivial ?_
    exact (k13 c1)
set_option maxRecDepth 20000 in
theorem s_X11_house_117 {d : Nat} (hd : 1 ≤ d) {Q : Option ax_V → ax_S → Prop} (σ : ax_S) (x1 : Int32) (rr : Int32) (h1 : vp_in x1 8) (k2 : Q (some (ax_i (v_J6_bitCount_0f7a4 (rr &&& (σ.1 31 (Int32.toNatClampNeg x1)))))) σ) : ax_W shC (d + 1) mX11_house Q 117 [none, some (ax_i x1), none] [ax_i rr, ax_r 5] σ := by
  refine ax_iload_n (q := 118) (i := 1) dX11_house_117 rfl rfl rfl ?_
  refine ax_callVfi (q := 121) (As := [ax_i rr, ax_i x1]) (st := []) (x := (rr &&& (σ.1 31 (Int32.toNatClampNeg x1)))) (σ2 := σ) dX11_house_118 rfl lk_X11_189 shC_5 rfl rfl rfl rfl (Nat.le_of_ble_eq_true rfl) (f_X0_touching σ rr x1 h1 (d := d) (by omega)) ?_
  refine ax_callSfi (q := 124) (As := [ax_i (rr &&& (σ.1 31 (Int32.toNatClampNeg x1)))]) (st := []) (x := (v_J6_bitCount_0f7a4 (rr &&& (σ.1 31 (Int32.toNatClampNeg x1))))) (σ2 := σ) dX11_house_121 rfl lk_X11_193 rfl rfl (Nat.le_of_ble_eq_true rfl) (f_J6_bitCount_0f7a4 (sh := shC) σ (rr &&& (σ.1 31 (Int32.toNatClampNeg x1)))  (d := d) (by omega)) ?_
  exact ax_iret dX11_house_124 rfl rfl k2
