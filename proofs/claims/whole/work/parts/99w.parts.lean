/-! ===== the constructors of the parts ===== -/
theorem io_i : Cond.instanceMethod objectInit ∈ ax_U := ax_in 28 (by decide +kernel) rfl
theorem io_c : Cond.code objectInit ⟨#[0xb1]⟩ 1 none ∈ ax_U := ax_in 29 (by decide +kernel) rfl
theorem jn_P {D : va_G} {cl : List vw_C} {ws : va_W} {x : Nat × va_E} {H : Heap} (h : va_P D cl (ws ++ [x]) H) : va_P D cl [x] H := fun k q hq => by
  rw [List.mem_singleton.mp (List.mem_of_getElem? hq)]
  exact h ws.length x jn_last
abbrev mX9_init : ax_M := (yX9_init, cX9_init, 1, none)
theorem ic_X9 : Cond.code yX9_init cX9_init 1 none ∈ ax_U := ax_in 34 (by decide +kernel) rfl
theorem ii_X9 : Cond.initialized RX9 ∈ ax_U := ax_in 2 (by decide +kernel) rfl
theorem im_X9 : Cond.instanceMethod yX9_init ∈ ax_U := ax_in 33 (by decide +kernel) rfl
theorem in_X9 : Cond.instantiable RX9 4 ∈ ax_U := ax_in 31 (by decide +kernel) rfl
theorem df_X9 : ∀ j, j < 4 → defaultValue (tyX9 j) = vp_V [.null, .int 0, .int 0, .int 0] j := fun j hj => by
  rcases (show j = 0 ∨ j = 1 ∨ j = 2 ∨ j = 3 by omega) with rfl | rfl | rfl | rfl <;> rfl
theorem io_X9 : Cond.methodLink RX9 3 objectInit ∈ ax_U := ax_in 35 (by decide +kernel) rfl
theorem fi_X9_9 : Cond.fieldLink RX9 9 "CopperTies$Tape" "signs" "[I" ∈ ax_U := ax_in 36 (by decide +kernel) rfl
abbrev b_X9 (dC : Nat → ClassId) (dI : Nat → Nat → Nat) (cI cZ : ClassId) (h0 sz : Nat) (t : State) : Prop := ∃ q1 : Nat, va_P (dC, dI) vwCl [(h0, .inr (9, [.ref q1, .int 0, .int 0, .int 0])), (q1, .inl (cI, 240, .inl (fun _ => 0)))] t.heap ∧ va_D (va_A [(h0, .inr (9, [.null, .int 0, .int 0, .int 0]))] sz) [(h0, .inr (9, [.ref q1, .int 0, .int 0, .int 0])), (q1, .inl (cI, 240, .inl (fun _ => 0)))]
set_option maxHeartbeats 8000000 in
set_option maxRecDepth 100000 in
theorem k_X9 (l : Launch) (dC : Nat → ClassId) (dI : Nat → Nat → Nat) (cI cZ : ClassId) (h0 sz : Nat) : Met l yX9_init (ax_ws mX9_init) { frames := 2, cells := 1, slots := 240, locals := 64 } (cnP dC dI cI cZ sz [.ref h0] (h0, .inr (9, [.null, .int 0, .int 0, .int 0])) []) (va_Qv (fun _ : Unit => True) (fun _ t => b_X9 dC dI cI cZ h0 sz t) (va_A [(h0, .inr (9, [.null, .int 0, .int 0, .int 0]))] sz)) 1 240 (va_A [(h0, .inr (9, [.null, .int 0, .int 0, .int 0]))] sz) := by
  refine cn_of (M := mX9_init) (fun sz t => b_X9 dC dI cI cZ h0 sz t) (by decide +kernel) rfl rfl (Nat.le_of_ble_eq_true rfl) ?_
  intro p e s m below meth c ls C hnl hl hP hD hS
  have hx := C.1
  have hb : c.code = cX9_init := C.2.1
  have hown : s.vm.findClass RX9 = some m.cls := C.2.2.2.1
  have hts := C.2.2.2.2.1
  have hK := C.2.2.2.2.2.1
  have hA := C.2.2.2.2.2.2.1
  have hl : lv_has ls 1 [(0, .ref h0)] := hl
  refine lv_aload_n hx hb dX9_init_0 rfl (lv_at hl 0 rfl) ?_
  refine W.objInit hx hb hown (hts _ io_X9) (hts _ io_i) (hts _ io_c) rfl (hl.1.trans C.2.2.1.symm) rfl dX9_init_1 (Nat.le_of_ble_eq_true rfl) (Nat.le_of_ble_eq_true rfl) ?_
  refine lv_aload_n hx hb dX9_init_4 rfl (lv_at hl 0 rfl) ?_
  refine lv_sipush (v := 240) hx hb dX9_init_5 (by decide) ?_
  refine cn_int (N' := 240) C hP hD hS (ci := 9) (T := TX9) rfl 0 (by decide) fi_X9_9 rfl (tyX9_ok 0 (by decide)) (fun _ => rfl) (fun _ => rfl) (Nat.le_of_ble_eq_true rfl) (by decide) (by decide) (Nat.le_of_ble_eq_true rfl) (Nat.le_of_ble_eq_true rfl) (Nat.le_of_ble_eq_true rfl) dX9_init_8 dX9_init_10 (fun q1 H locs hP hD hS => ?_)
  have hP : va_P (dC, dI) vwCl [(h0, .inr (9, [.ref q1, .int 0, .int 0, .int 0])), (q1, .inl (cI, 240, .inl (fun _ => 0)))] H := hP
  have hD : va_D _ [(h0, .inr (9, [.ref q1, .int 0, .int 0, .int 0])), (q1, .inl (cI, 240, .inl (fun _ => 0)))] := hD
  refine W.widen (k := 1) (n := 240) (Nat.le_of_ble_eq_true rfl) (Nat.le_of_ble_eq_true rfl) ?_
  exact W.vret hx hb C.2.2.2.2.2.2.2.2.2 (fun t ht hW => ⟨⟨(), rfl, trivial, q1, by rw [ht]; exact hP, hD⟩, hS.F ht⟩) hS.2.2 dX9_init_13 C.2.2.2.2.2.2.2.2.1
abbrev mX1_init : ax_M := (yX1_init, cX1_init, 2, none)
theorem ic_X1 : Cond.code yX1_init cX1_init 2 none ∈ ax_U := ax_in 60 (by decide +kernel) rfl
theorem ii_X1 : Cond.initialized RX1 ∈ ax_U := ax_in 3 (by decide +kernel) rfl
theorem im_X1 : Cond.instanceMethod yX1_init ∈ ax_U := ax_in 59 (by decide +kernel) rfl
theorem in_X1 : Cond.instantiable RX1 7 ∈ ax_U := ax_in 57 (by decide +kernel) rfl
theorem df_X1 : ∀ j, j < 7 → defaultValue (tyX1 j) = vp_V [.null, .null, .null, .null, .int 0, .int 0, .int 0] j := fun j hj => by
  rcases (show j = 0 ∨ j = 1 ∨ j = 2 ∨ j = 3 ∨ j = 4 ∨ j = 5 ∨ j = 6 by omega) with rfl | rfl | rfl | rfl | rfl | rfl | rfl <;> rfl
theorem io_X1 : Cond.methodLink RX1 3 objectInit ∈ ax_U := ax_in 61 (by decide +kernel) rfl
theorem fi_X1_11 : Cond.fieldLink RX1 11 "CopperTies$BeltReade\x72" "rulesTold" "[I" ∈ ax_U := ax_in 63 (by decide +kernel) rfl
theorem fi_X1_15 : Cond.fieldLink RX1 15 "CopperTies$BeltReade\x72" "housesTold" "[I" ∈ ax_U := ax_in 65 (by decide +kernel) rfl
theorem fi_X1_18 : Cond.fieldLink RX1 18 "CopperTies$BeltReade\x72" "wiresTold" "[I" ∈ ax_U := ax_in 67 (by decide +kernel) rfl
theorem fi_X1_21 : Cond.fieldLink RX1 21 "CopperTies$BeltReade\x72" "tape" "LCopperTies$Tape;" ∈ ax_U := ax_in 62 (by decide +kernel) rfl
abbrev b_X1 (dC : Nat → ClassId) (dI : Nat → Nat → Nat) (cI cZ : ClassId) (h0 a1 sz : Nat) (t : State) : Prop := ∃ q1 q2 q3 : Nat, va_P (dC, dI) vwCl [(h0, .inr (1, [.ref a1, .ref q1, .ref q2, .ref q3, .int 0, .int 0, .int 0])), (q1, .inl (cI, 2, .inl (fun _ => 0))), (q2, .inl (cI, 32, .inl (fun _ => 0))), (q3, .inl (cI, 24, .inl (fun _ => 0)))] t.heap ∧ va_D (va_A [(h0, .inr (1, [.null, .null, .null, .null, .int 0, .int 0, .int 0]))] sz) [(h0, .inr (1, [.ref a1, .ref q1, .ref q2, .ref q3, .int 0, .int 0, .int 0])), (q1, .inl (cI, 2, .inl (fun _ => 0))), (q2, .inl (cI, 32, .inl (fun _ => 0))), (q3, .inl (cI, 24, .inl (fun _ => 0)))]
set_option maxHeartbeats 8000000 in
set_option maxRecDepth 100000 in
theorem k_X1 (l : Launch) (dC : Nat → ClassId) (dI : Nat → Nat → Nat) (cI cZ : ClassId) (h0 a1 sz : Nat) : Met l yX1_init (ax_ws mX1_init) { frames := 2, cells := 3, slots := 58, locals := 64 } (cnP dC dI cI cZ sz [.ref h0, .ref a1] (h0, .inr (1, [.null, .null, .null, .null, .int 0, .int 0, .int 0])) []) (va_Qv (fun _ : Unit => True) (fun _ t => b_X1 dC dI cI cZ h0 a1 sz t) (va_A [(h0, .inr (1, [.null, .null, .null, .null, .int 0, .int 0, .int 0]))] sz)) 3 58 (va_A [(h0, .inr (1, [.null, .null, .null, .null, .int 0, .int 0, .int 0]))] sz) := by
  refine cn_of (M := mX1_init) (fun sz t => b_X1 dC dI cI cZ h0 a1 sz t) (by decide +kernel) rfl rfl (Nat.le_of_ble_eq_true rfl) ?_
  intro p e s m below meth c ls C hnl hl hP hD hS
  have hx := C.1
  have hb : c.code = cX1_init := C.2.1
  have hown : s.vm.findClass RX1 = some m.cls := C.2.2.2.1
  have hts := C.2.2.2.2.1
  have hK := C.2.2.2.2.2.1
  have hA := C.2.2.2.2.2.2.1
  have hl : lv_has ls 2 [(0, .ref h0), (1, .ref a1)] := hl
  refine lv_aload_n hx hb dX1_init_0 rfl (lv_at hl 0 rfl) ?_
  refine W.objInit hx hb hown (hts _ io_X1) (hts _ io_i) (hts _ io_c) rfl (hl.1.trans C.2.2.1.symm) rfl dX1_init_1 (Nat.le_of_ble_eq_true rfl) (Nat.le_of_ble_eq_true rfl) ?_
  refine lv_aload_n hx hb dX1_init_4 rfl (lv_at hl 0 rfl) ?_
  refine lv_iconst (v := 2) hx hb dX1_init_5 (by decide) ?_
  refine cn_int (N' := 2) C hP hD hS (ci := 1) (T := TX1) rfl 1 (by decide) fi_X1_11 rfl (tyX1_ok 1 (by decide)) (fun _ => rfl) (fun _ => rfl) (Nat.le_of_ble_eq_true rfl) (by decide) (by decide) (Nat.le_of_ble_eq_true rfl) (Nat.le_of_ble_eq_true rfl) (Nat.le_of_ble_eq_true rfl) dX1_init_6 dX1_init_8 (fun q1 H locs hP hD hS => ?_)
  have hP : va_P (dC, dI) vwCl [(h0, .inr (1, [.null, .ref q1, .null, .null, .int 0, .int 0, .int 0])), (q1, .inl (cI, 2, .inl (fun _ => 0)))] H := hP
  have hD : va_D _ [(h0, .inr (1, [.null, .ref q1, .null, .null, .int 0, .int 0, .int 0])), (q1, .inl (cI, 2, .inl (fun _ => 0)))] := hD
  refine lv_aload_n hx hb dX1_init_11 rfl (lv_at hl 0 rfl) ?_
  refine lv_bipush (v := 32) hx hb dX1_init_12 (by decide) ?_
  refine cn_int (N' := 32) C hP hD hS (ci := 1) (T := TX1) rfl 2 (by decide) fi_X1_15 rfl (tyX1_ok 2 (by decide)) (fun _ => rfl) (fun _ => rfl) (Nat.le_of_ble_eq_true rfl) (by decide) (by decide) (Nat.le_of_ble_eq_true rfl) (Nat.le_of_ble_eq_true rfl) (Nat.le_of_ble_eq_true rfl) dX1_init_14 dX1_init_16 (fun q2 H locs hP hD hS => ?_)
  have hP : va_P (dC, dI) vwCl [(h0, .inr (1, [.null, .ref q1, .ref q2, .null, .int 0, .int 0, .int 0])), (q1, .inl (cI, 2, .inl (fun _ => 0))), (q2, .inl (cI, 32, .inl (fun _ => 0)))] H := hP
  have hD : va_D _ [(h0, .inr (1, [.null, .ref q1, .ref q2, .null, .int 0, .int 0, .int 0])), (q1, .inl (cI, 2, .inl (fun _ => 0))), (q2, .inl (cI, 32, .inl (fun _ => 0)))] := hD
  refine lv_aload_n hx hb dX1_init_19 rfl (lv_at hl 0 rfl) ?_
  refine lv_bipush (v := 24) hx hb dX1_init_20 (by decide) ?_
  refine cn_int (N' := 24) C hP hD hS (ci := 1) (T := TX1) rfl 3 (by decide) fi_X1_18 rfl (tyX1_ok 3 (by decide)) (fun _ => rfl) (fun _ => rfl) (Nat.le_of_ble_eq_true rfl) (by decide) (by decide) (Nat.le_of_ble_eq_true rfl) (Nat.le_of_ble_eq_true rfl) (Nat.le_of_ble_eq_true rfl) dX1_init_22 dX1_init_24 (fun q3 H locs hP hD hS => ?_)
  have hP : va_P (dC, dI) vwCl [(h0, .inr (1, [.null, .ref q1, .ref q2, .ref q3, .int 0, .int 0, .int 0])), (q1, .inl (cI, 2, .inl (fun _ => 0))), (q2, .inl (cI, 32, .inl (fun _ => 0))), (q3, .inl (cI, 24, .inl (fun _ => 0)))] H := hP
  have hD : va_D _ [(h0, .inr (1, [.null, .ref q1, .ref q2, .ref q3, .int 0, .int 0, .int 0])), (q1, .inl (cI, 2, .inl (fun _ => 0))), (q2, .inl (cI, 32, .inl (fun _ => 0))), (q3, .inl (cI, 24, .inl (fun _ => 0)))] := hD
  refine lv_aload_n hx hb dX1_init_27 rfl (lv_at hl 0 rfl) ?_
  refine lv_aload_n hx hb dX1_init_28 rfl (lv_at hl 1 rfl) ?_
  refine cn_pf (v := .ref a1) C hP hD hS (ci := 1) (T := TX1) rfl 0 (by decide) fi_X1_21 rfl (tyX1_ok 0 (by decide)) rfl rfl (Nat.le_of_ble_eq_true rfl) dX1_init_29 (fun H locs hP hD hS => ?_)
  have hP : va_P (dC, dI) vwCl [(h0, .inr (1, [.ref a1, .ref q1, .ref q2, .ref q3, .int 0, .int 0, .int 0])), (q1, .inl (cI, 2, .inl (fun _ => 0))), (q2, .inl (cI, 32, .inl (fun _ => 0))), (q3, .inl (cI, 24, .inl (fun _ => 0)))] H := hP
  have hD : va_D _ [(h0, .inr (1, [.ref a1, .ref q1, .ref q2, .ref q3, .int 0, .int 0, .int 0])), (q1, .inl (cI, 2, .inl (fun _ => 0))), (q2, .inl (cI, 32, .inl (fun _ => 0))), (q3, .inl (cI, 24, .inl (fun _ => 0)))] := hD
  refine W.widen (k := 3) (n := 58) (Nat.le_of_ble_eq_true rfl) (Nat.le_of_ble_eq_true rfl) ?_
  exact W.vret hx hb C.2.2.2.2.2.2.2.2.2 (fun t ht hW => ⟨⟨(), rfl, trivial, q1, q2, q3, by rw [ht]; exact hP, hD⟩, hS.F ht⟩) hS.2.2 dX1_init_32 C.2.2.2.2.2.2.2.2.1
abbrev mX6_init : ax_M := (yX6_init, cX6_init, 2, none)
theorem ic_X6 : Cond.code yX6_init cX6_init 2 none ∈ ax_U := ax_in 93 (by decide +kernel) rfl
theorem ii_X6 : Cond.initialized RX6 ∈ ax_U := ax_in 4 (by decide +kernel) rfl
theorem im_X6 : Cond.instanceMethod yX6_init ∈ ax_U := ax_in 92 (by decide +kernel) rfl
theorem in_X6 : Cond.instantiable RX6 3 ∈ ax_U := ax_in 90 (by decide +kernel) rfl
theorem df_X6 : ∀ j, j < 3 → defaultValue (tyX6 j) = vp_V [.null, .null, .int 0] j := fun j hj => by
  rcases (show j = 0 ∨ j = 1 ∨ j = 2 by omega) with rfl | rfl | rfl <;> rfl
theorem io_X6 : Cond.methodLink RX6 5 objectInit ∈ ax_U := ax_in 94 (by decide +kernel) rfl
theorem fi_X6_11 : Cond.fieldLink RX6 11 "CopperTies$LawReade\x72" "steps" "[I" ∈ ax_U := ax_in 96 (by decide +kernel) rfl
theorem fi_X6_15 : Cond.fieldLink RX6 15 "CopperTies$LawReade\x72" "tape" "LCopperTies$Tape;" ∈ ax_U := ax_in 95 (by decide +kernel) rfl
abbrev b_X6 (dC : Nat → ClassId) (dI : Nat → Nat → Nat) (cI cZ : ClassId) (h0 a1 sz : Nat) (t : State) : Prop := ∃ q1 : Nat, va_P (dC, dI) vwCl [(h0, .inr (6, [.ref a1, .ref q1, .int 0])), (q1, .inl (cI, 240, .inl (fun _ => 0)))] t.heap ∧ va_D (va_A [(h0, .inr (6, [.null, .null, .int 0]))] sz) [(h0, .inr (6, [.ref a1, .ref q1, .int 0])), (q1, .inl (cI, 240, .inl (fun _ => 0)))]
set_option maxHeartbeats 8000000 in
set_option maxRecDepth 100000 in
theorem k_X6 (l : Launch) (dC : Nat → ClassId) (dI : Nat → Nat → Nat) (cI cZ : ClassId) (h0 a1 sz : Nat) : Met l yX6_init (ax_ws mX6_init) { frames := 2, cells := 1, slots := 240, locals := 64 } (cnP dC dI cI cZ sz [.ref h0, .ref a1] (h0, .inr (6, [.null, .null, .int 0])) []) (va_Qv (fun _ : Unit => True) (fun _ t => b_X6 dC dI cI cZ h0 a1 sz t) (va_A [(h0, .inr (6, [.null, .null, .int 0]))] sz)) 1 240 (va_A [(h0, .inr (6, [.null, .null, .int 0]))] sz) := by
  refine cn_of (M := mX6_init) (fun sz t => b_X6 dC dI cI cZ h0 a1 sz t) (by decide +kernel) rfl rfl (Nat.le_of_ble_eq_true rfl) ?_
  intro p e s m below meth c ls C hnl hl hP hD hS
  have hx := C.1
  have hb : c.code = cX6_init := C.2.1
  have hown : s.vm.findClass RX6 = some m.cls := C.2.2.2.1
  have hts := C.2.2.2.2.1
  have hK := C.2.2.2.2.2.1
  have hA := C.2.2.2.2.2.2.1
  have hl : lv_has ls 2 [(0, .ref h0), (1, .ref a1)] := hl
  refine lv_aload_n hx hb dX6_init_0 rfl (lv_at hl 0 rfl) ?_
  refine W.objInit hx hb hown (hts _ io_X6) (hts _ io_i) (hts _ io_c) rfl (hl.1.trans C.2.2.1.symm) rfl dX6_init_1 (Nat.le_of_ble_eq_true rfl) (Nat.le_of_ble_eq_true rfl) ?_
  refine lv_aload_n hx hb dX6_init_4 rfl (lv_at hl 0 rfl) ?_
  refine lv_sipush (v := 240) hx hb dX6_init_5 (by decide) ?_
  refine cn_int (N' := 240) C hP hD hS (ci := 6) (T := TX6) rfl 1 (by decide) fi_X6_11 rfl (tyX6_ok 1 (by decide)) (fun _ => rfl) (fun _ => rfl) (Nat.le_of_ble_eq_true rfl) (by decide) (by decide) (Nat.le_of_ble_eq_true rfl) (Nat.le_of_ble_eq_true rfl) (Nat.le_of_ble_eq_true rfl) dX6_init_8 dX6_init_10 (fun q1 H locs hP hD hS => ?_)
  have hP : va_P (dC, dI) vwCl [(h0, .inr (6, [.null, .ref q1, .int 0])), (q1, .inl (cI, 240, .inl (fun _ => 0)))] H := hP
  have hD : va_D _ [(h0, .inr (6, [.null, .ref q1, .int 0])), (q1, .inl (cI, 240, .inl (fun _ => 0)))] := hD
  refine lv_aload_n hx hb dX6_init_13 rfl (lv_at hl 0 rfl) ?_
  refine lv_aload_n hx hb dX6_init_14 rfl (lv_at hl 1 rfl) ?_
  refine cn_pf (v := .ref a1) C hP hD hS (ci := 6) (T := TX6) rfl 0 (by decide) fi_X6_15 rfl (tyX6_ok 0 (by decide)) rfl rfl (Nat.le_of_ble_eq_true rfl) dX6_init_15 (fun H locs hP hD hS => ?_)
  have hP : va_P (dC, dI) vwCl [(h0, .inr (6, [.ref a1, .ref q1, .int 0])), (q1, .inl (cI, 240, .inl (fun _ => 0)))] H := hP
  have hD : va_D _ [(h0, .inr (6, [.ref a1, .ref q1, .int 0])), (q1, .inl (cI, 240, .inl (fun _ => 0)))] := hD
  refine W.widen (k := 1) (n := 240) (Nat.le_of_ble_eq_true rfl) (Nat.le_of_ble_eq_true rfl) ?_
  exact W.vret hx hb C.2.2.2.2.2.2.2.2.2 (fun t ht hW => ⟨⟨(), rfl, trivial, q1, by rw [ht]; exact hP, hD⟩, hS.F ht⟩) hS.2.2 dX6_init_18 C.2.2.2.2.2.2.2.2.1
abbrev mX7_init : ax_M := (yX7_init, cX7_init, 1, none)
theorem ic_X7 : Cond.code yX7_init cX7_init 1 none ∈ ax_U := ax_in 111 (by decide +kernel) rfl
theorem ii_X7 : Cond.initialized RX7 ∈ ax_U := ax_in 5 (by decide +kernel) rfl
theorem im_X7 : Cond.instanceMethod yX7_init ∈ ax_U := ax_in 110 (by decide +kernel) rfl
theorem in_X7 : Cond.instantiable RX7 7 ∈ ax_U := ax_in 108 (by decide +kernel) rfl
theorem df_X7 : ∀ j, j < 7 → defaultValue (tyX7 j) = vp_V [.null, .null, .null, .null, .int 0, .int 0, .int 0] j := fun j hj => by
  rcases (show j = 0 ∨ j = 1 ∨ j = 2 ∨ j = 3 ∨ j = 4 ∨ j = 5 ∨ j = 6 by omega) with rfl | rfl | rfl | rfl | rfl | rfl | rfl <;> rfl
theorem io_X7 : Cond.methodLink RX7 3 objectInit ∈ ax_U := ax_in 112 (by decide +kernel) rfl
theorem fi_X7_11 : Cond.fieldLink RX7 11 "CopperTies$Laws" "steps" "[I" ∈ ax_U := ax_in 113 (by decide +kernel) rfl
theorem fi_X7_17 : Cond.fieldLink RX7 17 "CopperTies$Laws" "sizes" "[I" ∈ ax_U := ax_in 114 (by decide +kernel) rfl
theorem fi_X7_20 : Cond.fieldLink RX7 20 "CopperTies$Laws" "letters" "[I" ∈ ax_U := ax_in 115 (by decide +kernel) rfl
theorem fi_X7_23 : Cond.fieldLink RX7 23 "CopperTies$Laws" "stack" "[I" ∈ ax_U := ax_in 116 (by decide +kernel) rfl
theorem fi_X7_26 : Cond.fieldLink RX7 26 "CopperTies$Laws" "holding" "I" ∈ ax_U := ax_in 119 (by decide +kernel) rfl
abbrev b_X7 (dC : Nat → ClassId) (dI : Nat → Nat → Nat) (cI cZ : ClassId) (h0 sz : Nat) (t : State) : Prop := ∃ q1 q2 q3 q4 : Nat, va_P (dC, dI) vwCl [(h0, .inr (7, [.ref q1, .ref q2, .ref q3, .ref q4, .int 0, .int (-1), .int 0])), (q1, .inl (cI, 960, .inl (fun _ => 0))), (q2, .inl (cI, 4, .inl (fun _ => 0))), (q3, .inl (cI, 6, .inl (fun _ => 0))), (q4, .inl (cI, 64, .inl (fun _ => 0)))] t.heap ∧ va_D (va_A [(h0, .inr (7, [.null, .null, .null, .null, .int 0, .int 0, .int 0]))] sz) [(h0, .inr (7, [.ref q1, .ref q2, .ref q3, .ref q4, .int 0, .int (-1), .int 0])), (q1, .inl (cI, 960, .inl (fun _ => 0))), (q2, .inl (cI, 4, .inl (fun _ => 0))), (q3, .inl (cI, 6, .inl (fun _ => 0))), (q4, .inl (cI, 64, .inl (fun _ => 0)))]
set_option maxHeartbeats 8000000 in
set_option maxRecDepth 100000 in
theorem k_X7 (l : Launch) (dC : Nat → ClassId) (dI : Nat → Nat → Nat) (cI cZ : ClassId) (h0 sz : Nat) : Met l yX7_init (ax_ws mX7_init) { frames := 2, cells := 4, slots := 1034, locals := 64 } (cnP dC dI cI cZ sz [.ref h0] (h0, .inr (7, [.null, .null, .null, .null, .int 0, .int 0, .int 0])) []) (va_Qv (fun _ : Unit => True) (fun _ t => b_X7 dC dI cI cZ h0 sz t) (va_A [(h0, .inr (7, [.null, .null, .null, .null, .int 0, .int 0, .int 0]))] sz)) 4 1034 (va_A [(h0, .inr (7, [.null, .null, .null, .null, .int 0, .int 0, .int 0]))] sz) := by
  refine cn_of (M := mX7_init) (fun sz t => b_X7 dC dI cI cZ h0 sz t) (by decide +kernel) rfl rfl (Nat.le_of_ble_eq_true rfl) ?_
  intro p e s m below meth c ls C hnl hl hP hD hS
  have hx := C.1
  have hb : c.code = cX7_init := C.2.1
  have hown : s.vm.findClass RX7 = some m.cls := C.2.2.2.1
  have hts := C.2.2.2.2.1
  have hK := C.2.2.2.2.2.1
  have hA := C.2.2.2.2.2.2.1
  have hl : lv_has ls 1 [(0, .ref h0)] := hl
  refine lv_aload_n hx hb dX7_init_0 rfl (lv_at hl 0 rfl) ?_
  refine W.objInit hx hb hown (hts _ io_X7) (hts _ io_i) (hts _ io_c) rfl (hl.1.trans C.2.2.1.symm) rfl dX7_init_1 (Nat.le_of_ble_eq_true rfl) (Nat.le_of_ble_eq_true rfl) ?_
  refine lv_aload_n hx hb dX7_init_4 rfl (lv_at hl 0 rfl) ?_
  refine lv_sipush (v := 960) hx hb dX7_init_5 (by decide) ?_
  refine cn_int (N' := 960) C hP hD hS (ci := 7) (T := TX7) rfl 0 (by decide) fi_X7_11 rfl (tyX7_ok 0 (by decide)) (fun _ => rfl) (fun _ => rfl) (Nat.le_of_ble_eq_true rfl) (by decide) (by decide) (Nat.le_of_ble_eq_true rfl) (Nat.le_of_ble_eq_true rfl) (Nat.le_of_ble_eq_true rfl) dX7_init_8 dX7_init_10 (fun q1 H locs hP hD hS => ?_)
  have hP : va_P (dC, dI) vwCl [(h0, .inr (7, [.ref q1, .null, .null, .null, .int 0, .int 0, .int 0])), (q1, .inl (cI, 960, .inl (fun _ => 0)))] H := hP
  have hD : va_D _ [(h0, .inr (7, [.ref q1, .null, .null, .null, .int 0, .int 0, .int 0])), (q1, .inl (cI, 960, .inl (fun _ => 0)))] := hD
  refine lv_aload_n hx hb dX7_init_13 rfl (lv_at hl 0 rfl) ?_
  refine lv_iconst (v := 4) hx hb dX7_init_14 (by decide) ?_
  refine cn_int (N' := 4) C hP hD hS (ci := 7) (T := TX7) rfl 1 (by decide) fi_X7_17 rfl (tyX7_ok 1 (by decide)) (fun _ => rfl) (fun _ => rfl) (Nat.le_of_ble_eq_true rfl) (by decide) (by decide) (Nat.le_of_ble_eq_true rfl) (Nat.le_of_ble_eq_true rfl) (Nat.le_of_ble_eq_true rfl) dX7_init_15 dX7_init_17 (fun q2 H locs hP hD hS => ?_)
  have hP : va_P (dC, dI) vwCl [(h0, .inr (7, [.ref q1, .ref q2, .null, .null, .int 0, .int 0, .int 0])), (q1, .inl (cI, 960, .inl (fun _ => 0))), (q2, .inl (cI, 4, .inl (fun _ => 0)))] H := hP
  have hD : va_D _ [(h0, .inr (7, [.ref q1, .ref q2, .null, .null, .int 0, .int 0, .int 0])), (q1, .inl (cI, 960, .inl (fun _ => 0))), (q2, .inl (cI, 4, .inl (fun _ => 0)))] := hD
  refine lv_aload_n hx hb dX7_init_20 rfl (lv_at hl 0 rfl) ?_
  refine lv_bipush (v := 6) hx hb dX7_init_21 (by decide) ?_
  refine cn_int (N' := 6) C hP hD hS (ci := 7) (T := TX7) rfl 2 (by decide) fi_X7_20 rfl (tyX7_ok 2 (by decide)) (fun _ => rfl) (fun _ => rfl) (Nat.le_of_ble_eq_true rfl) (by decide) (by decide) (Nat.le_of_ble_eq_true rfl) (Nat.le_of_ble_eq_true rfl) (Nat.le_of_ble_eq_true rfl) dX7_init_23 dX7_init_25 (fun q3 H locs hP hD hS => ?_)
  have hP : va_P (dC, dI) vwCl [(h0, .inr (7, [.ref q1, .ref q2, .ref q3, .null, .int 0, .int 0, .int 0])), (q1, .inl (cI, 960, .inl (fun _ => 0))), (q2, .inl (cI, 4, .inl (fun _ => 0))), (q3, .inl (cI, 6, .inl (fun _ => 0)))] H := hP
  have hD : va_D _ [(h0, .inr (7, [.ref q1, .ref q2, .ref q3, .null, .int 0, .int 0, .int 0])), (q1, .inl (cI, 960, .inl (fun _ => 0))), (q2, .inl (cI, 4, .inl (fun _ => 0))), (q3, .inl (cI, 6, .inl (fun _ => 0)))] := hD
  refine lv_aload_n hx hb dX7_init_28 rfl (lv_at hl 0 rfl) ?_
  refine lv_bipush (v := 64) hx hb dX7_init_29 (by decide) ?_
  refine cn_int (N' := 64) C hP hD hS (ci := 7) (T := TX7) rfl 3 (by decide) fi_X7_23 rfl (tyX7_ok 3 (by decide)) (fun _ => rfl) (fun _ => rfl) (Nat.le_of_ble_eq_true rfl) (by decide) (by decide) (Nat.le_of_ble_eq_true rfl) (Nat.le_of_ble_eq_true rfl) (Nat.le_of_ble_eq_true rfl) dX7_init_31 dX7_init_33 (fun q4 H locs hP hD hS => ?_)
  have hP : va_P (dC, dI) vwCl [(h0, .inr (7, [.ref q1, .ref q2, .ref q3, .ref q4, .int 0, .int 0, .int 0])), (q1, .inl (cI, 960, .inl (fun _ => 0))), (q2, .inl (cI, 4, .inl (fun _ => 0))), (q3, .inl (cI, 6, .inl (fun _ => 0))), (q4, .inl (cI, 64, .inl (fun _ => 0)))] H := hP
  have hD : va_D _ [(h0, .inr (7, [.ref q1, .ref q2, .ref q3, .ref q4, .int 0, .int 0, .int 0])), (q1, .inl (cI, 960, .inl (fun _ => 0))), (q2, .inl (cI, 4, .inl (fun _ => 0))), (q3, .inl (cI, 6, .inl (fun _ => 0))), (q4, .inl (cI, 64, .inl (fun _ => 0)))] := hD
  refine lv_aload_n hx hb dX7_init_36 rfl (lv_at hl 0 rfl) ?_
  refine lv_iconst (v := -1) hx hb dX7_init_37 (by decide) ?_
  refine cn_pf (v := .int (-1)) C hP hD hS (ci := 7) (T := TX7) rfl 5 (by decide) fi_X7_26 rfl (tyX7_ok 5 (by decide)) rfl rfl (Nat.le_of_ble_eq_true rfl) dX7_init_38 (fun H locs hP hD hS => ?_)
  have hP : va_P (dC, dI) vwCl [(h0, .inr (7, [.ref q1, .ref q2, .ref q3, .ref q4, .int 0, .int (-1), .int 0])), (q1, .inl (cI, 960, .inl (fun _ => 0))), (q2, .inl (cI, 4, .inl (fun _ => 0))), (q3, .inl (cI, 6, .inl (fun _ => 0))), (q4, .inl (cI, 64, .inl (fun _ => 0)))] H := hP
  have hD : va_D _ [(h0, .inr (7, [.ref q1, .ref q2, .ref q3, .ref q4, .int 0, .int (-1), .int 0])), (q1, .inl (cI, 960, .inl (fun _ => 0))), (q2, .inl (cI, 4, .inl (fun _ => 0))), (q3, .inl (cI, 6, .inl (fun _ => 0))), (q4, .inl (cI, 64, .inl (fun _ => 0)))] := hD
  refine W.widen (k := 4) (n := 1034) (Nat.le_of_ble_eq_true rfl) (Nat.le_of_ble_eq_true rfl) ?_
  exact W.vret hx hb C.2.2.2.2.2.2.2.2.2 (fun t ht hW => ⟨⟨(), rfl, trivial, q1, q2, q3, q4, by rw [ht]; exact hP, hD⟩, hS.F ht⟩) hS.2.2 dX7_init_41 C.2.2.2.2.2.2.2.2.1
abbrev mX0_init : ax_M := (yX0_init, cX0_init, 1, none)
theorem ic_X0 : Cond.code yX0_init cX0_init 1 none ∈ ax_U := ax_in 142 (by decide +kernel) rfl
theorem ii_X0 : Cond.initialized RX0 ∈ ax_U := ax_in 6 (by decide +kernel) rfl
theorem im_X0 : Cond.instanceMethod yX0_init ∈ ax_U := ax_in 141 (by decide +kernel) rfl
theorem in_X0 : Cond.instantiable RX0 15 ∈ ax_U := ax_in 139 (by decide +kernel) rfl
theorem df_X0 : ∀ j, j < 15 → defaultValue (tyX0 j) = vp_V [.null, .null, .null, .null, .null, .null, .null, .null, .null, .int 0, .int 0, .int 0, .int 0, .int 0, .int 0] j := fun j hj => by
  rcases (show j = 0 ∨ j = 1 ∨ j = 2 ∨ j = 3 ∨ j = 4 ∨ j = 5 ∨ j = 6 ∨ j = 7 ∨ j = 8 ∨ j = 9 ∨ j = 10 ∨ j = 11 ∨ j = 12 ∨ j = 13 ∨ j = 14 by omega) with rfl | rfl | rfl | rfl | rfl | rfl | rfl | rfl | rfl | rfl | rfl | rfl | rfl | rfl | rfl <;> rfl
theorem io_X0 : Cond.methodLink RX0 3 objectInit ∈ ax_U := ax_in 143 (by decide +kernel) rfl
theorem fi_X0_9 : Cond.fieldLink RX0 9 "CopperTies$Belt" "place" "[I" ∈ ax_U := ax_in 144 (by decide +kernel) rfl
theorem fi_X0_15 : Cond.fieldLink RX0 15 "CopperTies$Belt" "height" "[I" ∈ ax_U := ax_in 146 (by decide +kernel) rfl
theorem fi_X0_18 : Cond.fieldLink RX0 18 "CopperTies$Belt" "bears" "[I" ∈ ax_U := ax_in 149 (by decide +kernel) rfl
theorem fi_X0_21 : Cond.fieldLink RX0 21 "CopperTies$Belt" "kind" "[I" ∈ ax_U := ax_in 152 (by decide +kernel) rfl
theorem fi_X0_24 : Cond.fieldLink RX0 24 "CopperTies$Belt" "burnt" "[I" ∈ ax_U := ax_in 156 (by decide +kernel) rfl
theorem fi_X0_27 : Cond.fieldLink RX0 27 "CopperTies$Belt" "from" "[I" ∈ ax_U := ax_in 158 (by decide +kernel) rfl
theorem fi_X0_30 : Cond.fieldLink RX0 30 "CopperTies$Belt" "to" "[I" ∈ ax_U := ax_in 161 (by decide +kernel) rfl
theorem fi_X0_33 : Cond.fieldLink RX0 33 "CopperTies$Belt" "salt" "[I" ∈ ax_U := ax_in 164 (by decide +kernel) rfl
theorem fi_X0_36 : Cond.fieldLink RX0 36 "CopperTies$Belt" "touches" "[I" ∈ ax_U := ax_in 167 (by decide +kernel) rfl
abbrev b_X0 (dC : Nat → ClassId) (dI : Nat → Nat → Nat) (cI cZ : ClassId) (h0 sz : Nat) (t : State) : Prop := ∃ q1 q2 q3 q4 q5 q6 q7 q8 q9 : Nat, va_P (dC, dI) vwCl [(h0, .inr (0, [.ref q1, .ref q2, .ref q3, .ref q4, .ref q5, .ref q6, .ref q7, .ref q8, .ref q9, .int 0, .int 0, .int 0, .int 0, .int 0, .int 0])), (q1, .inl (cI, 8, .inl (fun _ => 0))), (q2, .inl (cI, 8, .inl (fun _ => 0))), (q3, .inl (cI, 8, .inl (fun _ => 0))), (q4, .inl (cI, 8, .inl (fun _ => 0))), (q5, .inl (cI, 8, .inl (fun _ => 0))), (q6, .inl (cI, 17, .inl (fun _ => 0))), (q7, .inl (cI, 17, .inl (fun _ => 0))), (q8, .inl (cI, 17, .inl (fun _ => 0))), (q9, .inl (cI, 8, .inl (fun _ => 0)))] t.heap ∧ va_D (va_A [(h0, .inr (0, [.null, .null, .null, .null, .null, .null, .null, .null, .null, .int 0, .int 0, .int 0, .int 0, .int 0, .int 0]))] sz) [(h0, .inr (0, [.ref q1, .ref q2, .ref q3, .ref q4, .ref q5, .ref q6, .ref q7, .ref q8, .ref q9, .int 0, .int 0, .int 0, .int 0, .int 0, .int 0])), (q1, .inl (cI, 8, .inl (fun _ => 0))), (q2, .inl (cI, 8, .inl (fun _ => 0))), (q3, .inl (cI, 8, .inl (fun _ => 0))), (q4, .inl (cI, 8, .inl (fun _ => 0))), (q5, .inl (cI, 8, .inl (fun _ => 0))), (q6, .inl (cI, 17, .inl (fun _ => 0))), (q7, .inl (cI, 17, .inl (fun _ => 0))), (q8, .inl (cI, 17, .inl (fun _ => 0))), (q9, .inl (cI, 8, .inl (fun _ => 0)))]
set_option maxHeartbeats 8000000 in
set_option maxRecDepth 100000 in
theorem k_X0 (l : Launch) (dC : Nat → ClassId) (dI : Nat → Nat → Nat) (cI cZ : ClassId) (h0 sz : Nat) : Met l yX0_init (ax_ws mX0_init) { frames := 2, cells := 9, slots := 99, locals := 64 } (cnP dC dI cI cZ sz [.ref h0] (h0, .inr (0, [.null, .null, .null, .null, .null, .null, .null, .null, .null, .int 0, .int 0, .int 0, .int 0, .int 0, .int 0])) []) (va_Qv (fun _ : Unit => True) (fun _ t => b_X0 dC dI cI cZ h0 sz t) (va_A [(h0, .inr (0, [.null, .null, .null, .null, .null, .null, .null, .null, .null, .int 0, .int 0, .int 0, .int 0, .int 0, .int 0]))] sz)) 9 99 (va_A [(h0, .inr (0, [.null, .null, .null, .null, .null, .null, .null, .null, .null, .int 0, .int 0, .int 0, .int 0, .int 0, .int 0]))] sz) := by
  refine cn_of (M := mX0_init) (fun sz t => b_X0 dC dI cI cZ h0 sz t) (by decide +kernel) rfl rfl (Nat.le_of_ble_eq_true rfl) ?_
  intro p e s m below meth c ls C hnl hl hP hD hS
  have hx := C.1
  have hb : c.code = cX0_init := C.2.1
  have hown : s.vm.findClass RX0 = some m.cls := C.2.2.2.1
  have hts := C.2.2.2.2.1
  have hK := C.2.2.2.2.2.1
  have hA := C.2.2.2.2.2.2.1
  have hl : lv_has ls 1 [(0, .ref h0)] := hl
  refine lv_aload_n hx hb dX0_init_0 rfl (lv_at hl 0 rfl) ?_
  refine W.objInit hx hb hown (hts _ io_X0) (hts _ io_i) (hts _ io_c) rfl (hl.1.trans C.2.2.1.symm) rfl dX0_init_1 (Nat.le_of_ble_eq_true rfl) (Nat.le_of_ble_eq_true rfl) ?_
  refine lv_aload_n hx hb dX0_init_4 rfl (lv_at hl 0 rfl) ?_
  refine lv_bipush (v := 8) hx hb dX0_init_5 (by decide) ?_
  refine cn_int (N' := 8) C hP hD hS (ci := 0) (T := TX0) rfl 0 (by decide) fi_X0_9 rfl (tyX0_ok 0 (by decide)) (fun _ => rfl) (fun _ => rfl) (Nat.le_of_ble_eq_true rfl) (by decide) (by decide) (Nat.le_of_ble_eq_true rfl) (Nat.le_of_ble_eq_true rfl) (Nat.le_of_ble_eq_true rfl) dX0_init_7 dX0_init_9 (fun q1 H locs hP hD hS => ?_)
  have hP : va_P (dC, dI) vwCl [(h0, .inr (0, [.ref q1, .null, .null, .null, .null, .null, .null, .null, .null, .int 0, .int 0, .int 0, .int 0, .int 0, .int 0])), (q1, .inl (cI, 8, .inl (fun _ => 0)))] H := hP
  have hD : va_D _ [(h0, .inr (0, [.ref q1, .null, .null, .null, .null, .null, .null, .null, .null, .int 0, .int 0, .int 0, .int 0, .int 0, .int 0])), (q1, .inl (cI, 8, .inl (fun _ => 0)))] := hD
  refine lv_aload_n hx hb dX0_init_12 rfl (lv_at hl 0 rfl) ?_
  refine lv_bipush (v := 8) hx hb dX0_init_13 (by decide) ?_
  refine cn_int (N' := 8) C hP hD hS (ci := 0) (T := TX0) rfl 1 (by decide) fi_X0_15 rfl (tyX0_ok 1 (by decide)) (fun _ => rfl) (fun _ => rfl) (Nat.le_of_ble_eq_true rfl) (by decide) (by decide) (Nat.le_of_ble_eq_true rfl) (Nat.le_of_ble_eq_true rfl) (Nat.le_of_ble_eq_true rfl) dX0_init_15 dX0_init_17 (fun q2 H locs hP hD hS => ?_)
  have hP : va_P (dC, dI) vwCl [(h0, .inr (0, [.ref q1, .ref q2, .null, .null, .null, .null, .null, .null, .null, .int 0, .int 0, .int 0, .int 0, .int 0, .int 0])), (q1, .inl (cI, 8, .inl (fun _ => 0))), (q2, .inl (cI, 8, .inl (fun _ => 0)))] H := hP
  have hD : va_D _ [(h0, .inr (0, [.ref q1, .ref q2, .null, .null, .null, .null, .null, .null, .null, .int 0, .int 0, .int 0, .int 0, .int 0, .int 0])), (q1, .inl (cI, 8, .inl (fun _ => 0))), (q2, .inl (cI, 8, .inl (fun _ => 0)))] := hD
  refine lv_aload_n hx hb dX0_init_20 rfl (lv_at hl 0 rfl) ?_
  refine lv_bipush (v := 8) hx hb dX0_init_21 (by decide) ?_
  refine cn_int (N' := 8) C hP hD hS (ci := 0) (T := TX0) rfl 2 (by decide) fi_X0_18 rfl (tyX0_ok 2 (by decide)) (fun _ => rfl) (fun _ => rfl) (Nat.le_of_ble_eq_true rfl) (by decide) (by decide) (Nat.le_of_ble_eq_true rfl) (Nat.le_of_ble_eq_true rfl) (Nat.le_of_ble_eq_true rfl) dX0_init_23 dX0_init_25 (fun q3 H locs hP hD hS => ?_)
  have hP : va_P (dC, dI) vwCl [(h0, .inr (0, [.ref q1, .ref q2, .ref q3, .null, .null, .null, .null, .null, .null, .int 0, .int 0, .int 0, .int 0, .int 0, .int 0])), (q1, .inl (cI, 8, .inl (fun _ => 0))), (q2, .inl (cI, 8, .inl (fun _ => 0))), (q3, .inl (cI, 8, .inl (fun _ => 0)))] H := hP
  have hD : va_D _ [(h0, .inr (0, [.ref q1, .ref q2, .ref q3, .null, .null, .null, .null, .null, .null, .int 0, .int 0, .int 0, .int 0, .int 0, .int 0])), (q1, .inl (cI, 8, .inl (fun _ => 0))), (q2, .inl (cI, 8, .inl (fun _ => 0))), (q3, .inl (cI, 8, .inl (fun _ => 0)))] := hD
  refine lv_aload_n hx hb dX0_init_28 rfl (lv_at hl 0 rfl) ?_
  refine lv_bipush (v := 8) hx hb dX0_init_29 (by decide) ?_
  refine cn_int (N' := 8) C hP hD hS (ci := 0) (T := TX0) rfl 3 (by decide) fi_X0_21 rfl (tyX0_ok 3 (by decide)) (fun _ => rfl) (fun _ => rfl) (Nat.le_of_ble_eq_true rfl) (by decide) (by decide) (Nat.le_of_ble_eq_true rfl) (Nat.le_of_ble_eq_true rfl) (Nat.le_of_ble_eq_true rfl) dX0_init_31 dX0_init_33 (fun q4 H locs hP hD hS => ?_)
  have hP : va_P (dC, dI) vwCl [(h0, .inr (0, [.ref q1, .ref q2, .ref q3, .ref q4, .null, .null, .null, .null, .null, .int 0, .int 0, .int 0, .int 0, .int 0, .int 0])), (q1, .inl (cI, 8, .inl (fun _ => 0))), (q2, .inl (cI, 8, .inl (fun _ => 0))), (q3, .inl (cI, 8, .inl (fun _ => 0))), (q4, .inl (cI, 8, .inl (fun _ => 0)))] H := hP
  have hD : va_D _ [(h0, .inr (0, [.ref q1, .ref q2, .ref q3, .ref q4, .null, .null, .null, .null, .null, .int 0, .int 0, .int 0, .int 0, .int 0, .int 0])), (q1, .inl (cI, 8, .inl (fun _ => 0))), (q2, .inl (cI, 8, .inl (fun _ => 0))), (q3, .inl (cI, 8, .inl (fun _ => 0))), (q4, .inl (cI, 8, .inl (fun _ => 0)))] := hD
  refine lv_aload_n hx hb dX0_init_36 rfl (lv_at hl 0 rfl) ?_
  refine lv_bipush (v := 8) hx hb dX0_init_37 (by decide) ?_
  refine cn_int (N' := 8) C hP hD hS (ci := 0) (T := TX0) rfl 4 (by decide) fi_X0_24 rfl (tyX0_ok 4 (by decide)) (fun _ => rfl) (fun _ => rfl) (Nat.le_of_ble_eq_true rfl) (by decide) (by decide) (Nat.le_of_ble_eq_true rfl) (Nat.le_of_ble_eq_true rfl) (Nat.le_of_ble_eq_true rfl) dX0_init_39 dX0_init_41 (fun q5 H locs hP hD hS => ?_)
  have hP : va_P (dC, dI) vwCl [(h0, .inr (0, [.ref q1, .ref q2, .ref q3, .ref q4, .ref q5, .null, .null, .null, .null, .int 0, .int 0, .int 0, .int 0, .int 0, .int 0])), (q1, .inl (cI, 8, .inl (fun _ => 0))), (q2, .inl (cI, 8, .inl (fun _ => 0))), (q3, .inl (cI, 8, .inl (fun _ => 0))), (q4, .inl (cI, 8, .inl (fun _ => 0))), (q5, .inl (cI, 8, .inl (fun _ => 0)))] H := hP
  have hD : va_D _ [(h0, .inr (0, [.ref q1, .ref q2, .ref q3, .ref q4, .ref q5, .null, .null, .null, .null, .int 0, .int 0, .int 0, .int 0, .int 0, .int 0])), (q1, .inl (cI, 8, .inl (fun _ => 0))), (q2, .inl (cI, 8, .inl (fun _ => 0))), (q3, .inl (cI, 8, .inl (fun _ => 0))), (q4, .inl (cI, 8, .inl (fun _ => 0))), (q5, .inl (cI, 8, .inl (fun _ => 0)))] := hD
  refine lv_aload_n hx hb dX0_init_44 rfl (lv_at hl 0 rfl) ?_
  refine lv_bipush (v := 17) hx hb dX0_init_45 (by decide) ?_
  refine cn_int (N' := 17) C hP hD hS (ci := 0) (T := TX0) rfl 5 (by decide) fi_X0_27 rfl (tyX0_ok 5 (by decide)) (fun _ => rfl) (fun _ => rfl) (Nat.le_of_ble_eq_true rfl) (by decide) (by decide) (Nat.le_of_ble_eq_true rfl) (Nat.le_of_ble_eq_true rfl) (Nat.le_of_ble_eq_true rfl) dX0_init_47 dX0_init_49 (fun q6 H locs hP hD hS => ?_)
  have hP : va_P (dC, dI) vwCl [(h0, .inr (0, [.ref q1, .ref q2, .ref q3, .ref q4, .ref q5, .ref q6, .null, .null, .null, .int 0, .int 0, .int 0, .int 0, .int 0, .int 0])), (q1, .inl (cI, 8, .inl (fun _ => 0))), (q2, .inl (cI, 8, .inl (fun _ => 0))), (q3, .inl (cI, 8, .inl (fun _ => 0))), (q4, .inl (cI, 8, .inl (fun _ => 0))), (q5, .inl (cI, 8, .inl (fun _ => 0))), (q6, .inl (cI, 17, .inl (fun _ => 0)))] H := hP
  have hD : va_D _ [(h0, .inr (0, [.ref q1, .ref q2, .ref q3, .ref q4, .ref q5, .ref q6, .null, .null, .null, .int 0, .int 0, .int 0, .int 0, .int 0, .int 0])), (q1, .inl (cI, 8, .inl (fun _ => 0))), (q2, .inl (cI, 8, .inl (fun _ => 0))), (q3, .inl (cI, 8, .inl (fun _ => 0))), (q4, .inl (cI, 8, .inl (fun _ => 0))), (q5, .inl (cI, 8, .inl (fun _ => 0))), (q6, .inl (cI, 17, .inl (fun _ => 0)))] := hD
  refine lv_aload_n hx hb dX0_init_52 rfl (lv_at hl 0 rfl) ?_
  refine lv_bipush (v := 17) hx hb dX0_init_53 (by decide) ?_
  refine cn_int (N' := 17) C hP hD hS (ci := 0) (T := TX0) rfl 6 (by decide) fi_X0_30 rfl (tyX0_ok 6 (by decide)) (fun _ => rfl) (fun _ => rfl) (Nat.le_of_ble_eq_true rfl) (by decide) (by decide) (Nat.le_of_ble_eq_true rfl) (Nat.le_of_ble_eq_true rfl) (Nat.le_of_ble_eq_true rfl) dX0_init_55 dX0_init_57 (fun q7 H locs hP hD hS => ?_)
  have hP : va_P (dC, dI) vwCl [(h0, .inr (0, [.ref q1, .ref q2, .ref q3, .ref q4, .ref q5, .ref q6, .ref q7, .null, .null, .int 0, .int 0, .int 0, .int 0, .int 0, .int 0])), (q1, .inl (cI, 8, .inl (fun _ => 0))), (q2, .inl (cI, 8, .inl (fun _ => 0))), (q3, .inl (cI, 8, .inl (fun _ => 0))), (q4, .inl (cI, 8, .inl (fun _ => 0))), (q5, .inl (cI, 8, .inl (fun _ => 0))), (q6, .inl (cI, 17, .inl (fun _ => 0))), (q7, .inl (cI, 17, .inl (fun _ => 0)))] H := hP
  have hD : va_D _ [(h0, .inr (0, [.ref q1, .ref q2, .ref q3, .ref q4, .ref q5, .ref q6, .ref q7, .null, .null, .int 0, .int 0, .int 0, .int 0, .int 0, .int 0])), (q1, .inl (cI, 8, .inl (fun _ => 0))), (q2, .inl (cI, 8, .inl (fun _ => 0))), (q3, .inl (cI, 8, .inl (fun _ => 0))), (q4, .inl (cI, 8, .inl (fun _ => 0))), (q5, .inl (cI, 8, .inl (fun _ => 0))), (q6, .inl (cI, 17, .inl (fun _ => 0))), (q7, .inl (cI, 17, .inl (fun _ => 0)))] := hD
  refine lv_aload_n hx hb dX0_init_60 rfl (lv_at hl 0 rfl) ?_
  refine lv_bipush (v := 17) hx hb dX0_init_61 (by decide) ?_
  refine cn_int (N' := 17) C hP hD hS (ci := 0) (T := TX0) rfl 7 (by decide) fi_X0_33 rfl (tyX0_ok 7 (by decide)) (fun _ => rfl) (fun _ => rfl) (Nat.le_of_ble_eq_true rfl) (by decide) (by decide) (Nat.le_of_ble_eq_true rfl) (Nat.le_of_ble_eq_true rfl) (Nat.le_of_ble_eq_true rfl) dX0_init_63 dX0_init_65 (fun q8 H locs hP hD hS => ?_)
  have hP : va_P (dC, dI) vwCl [(h0, .inr (0, [.ref q1, .ref q2, .ref q3, .ref q4, .ref q5, .ref q6, .ref q7, .ref q8, .null, .int 0, .int 0, .int 0, .int 0, .int 0, .int 0])), (q1, .inl (cI, 8, .inl (fun _ => 0))), (q2, .inl (cI, 8, .inl (fun _ => 0))), (q3, .inl (cI, 8, .inl (fun _ => 0))), (q4, .inl (cI, 8, .inl (fun _ => 0))), (q5, .inl (cI, 8, .inl (fun _ => 0))), (q6, .inl (cI, 17, .inl (fun _ => 0))), (q7, .inl (cI, 17, .inl (fun _ => 0))), (q8, .inl (cI, 17, .inl (fun _ => 0)))] H := hP
  have hD : va_D _ [(h0, .inr (0, [.ref q1, .ref q2, .ref q3, .ref q4, .ref q5, .ref q6, .ref q7, .ref q8, .null, .int 0, .int 0, .int 0, .int 0, .int 0, .int 0])), (q1, .inl (cI, 8, .inl (fun _ => 0))), (q2, .inl (cI, 8, .inl (fun _ => 0))), (q3, .inl (cI, 8, .inl (fun _ => 0))), (q4, .inl (cI, 8, .inl (fun _ => 0))), (q5, .inl (cI, 8, .inl (fun _ => 0))), (q6, .inl (cI, 17, .inl (fun _ => 0))), (q7, .inl (cI, 17, .inl (fun _ => 0))), (q8, .inl (cI, 17, .inl (fun _ => 0)))] := hD
  refine lv_aload_n hx hb dX0_init_68 rfl (lv_at hl 0 rfl) ?_
  refine lv_bipush (v := 8) hx hb dX0_init_69 (by decide) ?_
  refine cn_int (N' := 8) C hP hD hS (ci := 0) (T := TX0) rfl 8 (by decide) fi_X0_36 rfl (tyX0_ok 8 (by decide)) (fun _ => rfl) (fun _ => rfl) (Nat.le_of_ble_eq_true rfl) (by decide) (by decide) (Nat.le_of_ble_eq_true rfl) (Nat.le_of_ble_eq_true rfl) (Nat.le_of_ble_eq_true rfl) dX0_init_71 dX0_init_73 (fun q9 H locs hP hD hS => ?_)
  have hP : va_P (dC, dI) vwCl [(h0, .inr (0, [.ref q1, .ref q2, .ref q3, .ref q4, .ref q5, .ref q6, .ref q7, .ref q8, .ref q9, .int 0, .int 0, .int 0, .int 0, .int 0, .int 0])), (q1, .inl (cI, 8, .inl (fun _ => 0))), (q2, .inl (cI, 8, .inl (fun _ => 0))), (q3, .inl (cI, 8, .inl (fun _ => 0))), (q4, .inl (cI, 8, .inl (fun _ => 0))), (q5, .inl (cI, 8, .inl (fun _ => 0))), (q6, .inl (cI, 17, .inl (fun _ => 0))), (q7, .inl (cI, 17, .inl (fun _ => 0))), (q8, .inl (cI, 17, .inl (fun _ => 0))), (q9, .inl (cI, 8, .inl (fun _ => 0)))] H := hP
  have hD : va_D _ [(h0, .inr (0, [.ref q1, .ref q2, .ref q3, .ref q4, .ref q5, .ref q6, .ref q7, .ref q8, .ref q9, .int 0, .int 0, .int 0, .int 0, .int 0, .int 0])), (q1, .inl (cI, 8, .inl (fun _ => 0))), (q2, .inl (cI, 8, .inl (fun _ => 0))), (q3, .inl (cI, 8, .inl (fun _ => 0))), (q4, .inl (cI, 8, .inl (fun _ => 0))), (q5, .inl (cI, 8, .inl (fun _ => 0))), (q6, .inl (cI, 17, .inl (fun _ => 0))), (q7, .inl (cI, 17, .inl (fun _ => 0))), (q8, .inl (cI, 17, .inl (fun _ => 0))), (q9, .inl (cI, 8, .inl (fun _ => 0)))] := hD
  refine W.widen (k := 9) (n := 99) (Nat.le_of_ble_eq_true rfl) (Nat.le_of_ble_eq_true rfl) ?_
  exact W.vret hx hb C.2.2.2.2.2.2.2.2.2 (fun t ht hW => ⟨⟨(), rfl, trivial, q1, q2, q3, q4, q5, q6, q7, q8, q9, by rw [ht]; exact hP, hD⟩, hS.F ht⟩) hS.2.2 dX0_init_76 C.2.2.2.2.2.2.2.2.1
abbrev mX8_init : ax_M := (yX8_init, cX8_init, 3, none)
theorem ic_X8 : Cond.code yX8_init cX8_init 3 none ∈ ax_U := ax_in 219 (by decide +kernel) rfl
theorem ii_X8 : Cond.initialized RX8 ∈ ax_U := ax_in 7 (by decide +kernel) rfl
theorem im_X8 : Cond.instanceMethod yX8_init ∈ ax_U := ax_in 218 (by decide +kernel) rfl
theorem in_X8 : Cond.instantiable RX8 9 ∈ ax_U := ax_in 216 (by decide +kernel) rfl
theorem df_X8 : ∀ j, j < 9 → defaultValue (tyX8 j) = vp_V [.null, .null, .null, .null, .null, .null, .int 0, .int 0, .int 0] j := fun j hj => by
  rcases (show j = 0 ∨ j = 1 ∨ j = 2 ∨ j = 3 ∨ j = 4 ∨ j = 5 ∨ j = 6 ∨ j = 7 ∨ j = 8 by omega) with rfl | rfl | rfl | rfl | rfl | rfl | rfl | rfl | rfl <;> rfl
theorem io_X8 : Cond.methodLink RX8 3 objectInit ∈ ax_U := ax_in 220 (by decide +kernel) rfl
theorem fi_X8_9 : Cond.fieldLink RX8 9 "CopperTies$Storm" "kept" "[I" ∈ ax_U := ax_in 223 (by decide +kernel) rfl
theorem fi_X8_15 : Cond.fieldLink RX8 15 "CopperTies$Storm" "comesTo" "[I" ∈ ax_U := ax_in 225 (by decide +kernel) rfl
theorem fi_X8_18 : Cond.fieldLink RX8 18 "CopperTies$Storm" "comesBy" "[I" ∈ ax_U := ax_in 226 (by decide +kernel) rfl
theorem fi_X8_21 : Cond.fieldLink RX8 21 "CopperTies$Storm" "comes" "[I" ∈ ax_U := ax_in 227 (by decide +kernel) rfl
theorem fi_X8_24 : Cond.fieldLink RX8 24 "CopperTies$Storm" "belt" "LCopperTies$Belt;" ∈ ax_U := ax_in 221 (by decide +kernel) rfl
theorem fi_X8_28 : Cond.fieldLink RX8 28 "CopperTies$Storm" "laws" "LCopperTies$Laws;" ∈ ax_U := ax_in 222 (by decide +kernel) rfl
abbrev b_X8 (dC : Nat → ClassId) (dI : Nat → Nat → Nat) (cI cZ : ClassId) (h0 a1 a2 sz : Nat) (t : State) : Prop := ∃ q1 q2 q3 q4 : Nat, va_P (dC, dI) vwCl [(h0, .inr (8, [.ref a1, .ref a2, .ref q1, .ref q2, .ref q3, .ref q4, .int 0, .int 0, .int 0])), (q1, .inl (cI, 8, .inl (fun _ => 0))), (q2, .inl (cI, 35, .inl (fun _ => 0))), (q3, .inl (cI, 35, .inl (fun _ => 0))), (q4, .inl (cI, 35, .inl (fun _ => 0)))] t.heap ∧ va_D (va_A [(h0, .inr (8, [.null, .null, .null, .null, .null, .null, .int 0, .int 0, .int 0]))] sz) [(h0, .inr (8, [.ref a1, .ref a2, .ref q1, .ref q2, .ref q3, .ref q4, .int 0, .int 0, .int 0])), (q1, .inl (cI, 8, .inl (fun _ => 0))), (q2, .inl (cI, 35, .inl (fun _ => 0))), (q3, .inl (cI, 35, .inl (fun _ => 0))), (q4, .inl (cI, 35, .inl (fun _ => 0)))]
set_option maxHeartbeats 8000000 in
set_option maxRecDepth 100000 in
theorem k_X8 (l : Launch) (dC : Nat → ClassId) (dI : Nat → Nat → Nat) (cI cZ : ClassId) (h0 a1 a2 sz : Nat) : Met l yX8_init (ax_ws mX8_init) { frames := 2, cells := 4, slots := 113, locals := 64 } (cnP dC dI cI cZ sz [.ref h0, .ref a1, .ref a2] (h0, .inr (8, [.null, .null, .null, .null, .null, .null, .int 0, .int 0, .int 0])) []) (va_Qv (fun _ : Unit => True) (fun _ t => b_X8 dC dI cI cZ h0 a1 a2 sz t) (va_A [(h0, .inr (8, [.null, .null, .null, .null, .null, .null, .int 0, .int 0, .int 0]))] sz)) 4 113 (va_A [(h0, .inr (8, [.null, .null, .null, .null, .null, .null, .int 0, .int 0, .int 0]))] sz) := by
  refine cn_of (M := mX8_init) (fun sz t => b_X8 dC dI cI cZ h0 a1 a2 sz t) (by decide +kernel) rfl rfl (Nat.le_of_ble_eq_true rfl) ?_
  intro p e s m below meth c ls C hnl hl hP hD hS
  have hx := C.1
  have hb : c.code = cX8_init := C.2.1
  have hown : s.vm.findClass RX8 = some m.cls := C.2.2.2.1
  have hts := C.2.2.2.2.1
  have hK := C.2.2.2.2.2.1
  have hA := C.2.2.2.2.2.2.1
  have hl : lv_has ls 3 [(0, .ref h0), (1, .ref a1), (2, .ref a2)] := hl
  refine lv_aload_n hx hb dX8_init_0 rfl (lv_at hl 0 rfl) ?_
  refine W.objInit hx hb hown (hts _ io_X8) (hts _ io_i) (hts _ io_c) rfl (hl.1.trans C.2.2.1.symm) rfl dX8_init_1 (Nat.le_of_ble_eq_true rfl) (Nat.le_of_ble_eq_true rfl) ?_
  refine lv_aload_n hx hb dX8_init_4 rfl (lv_at hl 0 rfl) ?_
  refine lv_bipush (v := 8) hx hb dX8_init_5 (by decide) ?_
  refine cn_int (N' := 8) C hP hD hS (ci := 8) (T := TX8) rfl 2 (by decide) fi_X8_9 rfl (tyX8_ok 2 (by decide)) (fun _ => rfl) (fun _ => rfl) (Nat.le_of_ble_eq_true rfl) (by decide) (by decide) (Nat.le_of_ble_eq_true rfl) (Nat.le_of_ble_eq_true rfl) (Nat.le_of_ble_eq_true rfl) dX8_init_7 dX8_init_9 (fun q1 H locs hP hD hS => ?_)
  have hP : va_P (dC, dI) vwCl [(h0, .inr (8, [.null, .null, .ref q1, .null, .null, .null, .int 0, .int 0, .int 0])), (q1, .inl (cI, 8, .inl (fun _ => 0)))] H := hP
  have hD : va_D _ [(h0, .inr (8, [.null, .null, .ref q1, .null, .null, .null, .int 0, .int 0, .int 0])), (q1, .inl (cI, 8, .inl (fun _ => 0)))] := hD
  refine lv_aload_n hx hb dX8_init_12 rfl (lv_at hl 0 rfl) ?_
  refine lv_bipush (v := 35) hx hb dX8_init_13 (by decide) ?_
  refine cn_int (N' := 35) C hP hD hS (ci := 8) (T := TX8) rfl 3 (by decide) fi_X8_15 rfl (tyX8_ok 3 (by decide)) (fun _ => rfl) (fun _ => rfl) (Nat.le_of_ble_eq_true rfl) (by decide) (by decide) (Nat.le_of_ble_eq_true rfl) (Nat.le_of_ble_eq_true rfl) (Nat.le_of_ble_eq_true rfl) dX8_init_15 dX8_init_17 (fun q2 H locs hP hD hS => ?_)
  have hP : va_P (dC, dI) vwCl [(h0, .inr (8, [.null, .null, .ref q1, .ref q2, .null, .null, .int 0, .int 0, .int 0])), (q1, .inl (cI, 8, .inl (fun _ => 0))), (q2, .inl (cI, 35, .inl (fun _ => 0)))] H := hP
  have hD : va_D _ [(h0, .inr (8, [.null, .null, .ref q1, .ref q2, .null, .null, .int 0, .int 0, .int 0])), (q1, .inl (cI, 8, .inl (fun _ => 0))), (q2, .inl (cI, 35, .inl (fun _ => 0)))] := hD
  refine lv_aload_n hx hb dX8_init_20 rfl (lv_at hl 0 rfl) ?_
  refine lv_bipush (v := 35) hx hb dX8_init_21 (by decide) ?_
  refine cn_int (N' := 35) C hP hD hS (ci := 8) (T := TX8) rfl 4 (by decide) fi_X8_18 rfl (tyX8_ok 4 (by decide)) (fun _ => rfl) (fun _ => rfl) (Nat.le_of_ble_eq_true rfl) (by decide) (by decide) (Nat.le_of_ble_eq_true rfl) (Nat.le_of_ble_eq_true rfl) (Nat.le_of_ble_eq_true rfl) dX8_init_23 dX8_init_25 (fun q3 H locs hP hD hS => ?_)
  have hP : va_P (dC, dI) vwCl [(h0, .inr (8, [.null, .null, .ref q1, .ref q2, .ref q3, .null, .int 0, .int 0, .int 0])), (q1, .inl (cI, 8, .inl (fun _ => 0))), (q2, .inl (cI, 35, .inl (fun _ => 0))), (q3, .inl (cI, 35, .inl (fun _ => 0)))] H := hP
  have hD : va_D _ [(h0, .inr (8, [.null, .null, .ref q1, .ref q2, .ref q3, .null, .int 0, .int 0, .int 0])), (q1, .inl (cI, 8, .inl (fun _ => 0))), (q2, .inl (cI, 35, .inl (fun _ => 0))), (q3, .inl (cI, 35, .inl (fun _ => 0)))] := hD
  refine lv_aload_n hx hb dX8_init_28 rfl (lv_at hl 0 rfl) ?_
  refine lv_bipush (v := 35) hx hb dX8_init_29 (by decide) ?_
  refine cn_int (N' := 35) C hP hD hS (ci := 8) (T := TX8) rfl 5 (by decide) fi_X8_21 rfl (tyX8_ok 5 (by decide)) (fun _ => rfl) (fun _ => rfl) (Nat.le_of_ble_eq_true rfl) (by decide) (by decide) (Nat.le_of_ble_eq_true rfl) (Nat.le_of_ble_eq_true rfl) (Nat.le_of_ble_eq_true rfl) dX8_init_31 dX8_init_33 (fun q4 H locs hP hD hS => ?_)
  have hP : va_P (dC, dI) vwCl [(h0, .inr (8, [.null, .null, .ref q1, .ref q2, .ref q3, .ref q4, .int 0, .int 0, .int 0])), (q1, .inl (cI, 8, .inl (fun _ => 0))), (q2, .inl (cI, 35, .inl (fun _ => 0))), (q3, .inl (cI, 35, .inl (fun _ => 0))), (q4, .inl (cI, 35, .inl (fun _ => 0)))] H := hP
  have hD : va_D _ [(h0, .inr (8, [.null, .null, .ref q1, .ref q2, .ref q3, .ref q4, .int 0, .int 0, .int 0])), (q1, .inl (cI, 8, .inl (fun _ => 0))), (q2, .inl (cI, 35, .inl (fun _ => 0))), (q3, .inl (cI, 35, .inl (fun _ => 0))), (q4, .inl (cI, 35, .inl (fun _ => 0)))] := hD
  refine lv_aload_n hx hb dX8_init_36 rfl (lv_at hl 0 rfl) ?_
  refine lv_aload_n hx hb dX8_init_37 rfl (lv_at hl 1 rfl) ?_
  refine cn_pf (v := .ref a1) C hP hD hS (ci := 8) (T := TX8) rfl 0 (by decide) fi_X8_24 rfl (tyX8_ok 0 (by decide)) rfl rfl (Nat.le_of_ble_eq_true rfl) dX8_init_38 (fun H locs hP hD hS => ?_)
  have hP : va_P (dC, dI) vwCl [(h0, .inr (8, [.ref a1, .null, .ref q1, .ref q2, .ref q3, .ref q4, .int 0, .int 0, .int 0])), (q1, .inl (cI, 8, .inl (fun _ => 0))), (q2, .inl (cI, 35, .inl (fun _ => 0))), (q3, .inl (cI, 35, .inl (fun _ => 0))), (q4, .inl (cI, 35, .inl (fun _ => 0)))] H := hP
  have hD : va_D _ [(h0, .inr (8, [.ref a1, .null, .ref q1, .ref q2, .ref q3, .ref q4, .int 0, .int 0, .int 0])), (q1, .inl (cI, 8, .inl (fun _ => 0))), (q2, .inl (cI, 35, .inl (fun _ => 0))), (q3, .inl (cI, 35, .inl (fun _ => 0))), (q4, .inl (cI, 35, .inl (fun _ => 0)))] := hD
  refine lv_aload_n hx hb dX8_init_41 rfl (lv_at hl 0 rfl) ?_
  refine lv_aload_n hx hb dX8_init_42 rfl (lv_at hl 2 rfl) ?_
  refine cn_pf (v := .ref a2) C hP hD hS (ci := 8) (T := TX8) rfl 1 (by decide) fi_X8_28 rfl (tyX8_ok 1 (by decide)) rfl rfl (Nat.le_of_ble_eq_true rfl) dX8_init_43 (fun H locs hP hD hS => ?_)
  have hP : va_P (dC, dI) vwCl [(h0, .inr (8, [.ref a1, .ref a2, .ref q1, .ref q2, .ref q3, .ref q4, .int 0, .int 0, .int 0])), (q1, .inl (cI, 8, .inl (fun _ => 0))), (q2, .inl (cI, 35, .inl (fun _ => 0))), (q3, .inl (cI, 35, .inl (fun _ => 0))), (q4, .inl (cI, 35, .inl (fun _ => 0)))] H := hP
  have hD : va_D _ [(h0, .inr (8, [.ref a1, .ref a2, .ref q1, .ref q2, .ref q3, .ref q4, .int 0, .int 0, .int 0])), (q1, .inl (cI, 8, .inl (fun _ => 0))), (q2, .inl (cI, 35, .inl (fun _ => 0))), (q3, .inl (cI, 35, .inl (fun _ => 0))), (q4, .inl (cI, 35, .inl (fun _ => 0)))] := hD
  refine W.widen (k := 4) (n := 113) (Nat.le_of_ble_eq_true rfl) (Nat.le_of_ble_eq_true rfl) ?_
  exact W.vret hx hb C.2.2.2.2.2.2.2.2.2 (fun t ht hW => ⟨⟨(), rfl, trivial, q1, q2, q3, q4, by rw [ht]; exact hP, hD⟩, hS.F ht⟩) hS.2.2 dX8_init_46 C.2.2.2.2.2.2.2.2.1
abbrev mX5_init : ax_M := (yX5_init, cX5_init, 1, none)
theorem ic_X5 : Cond.code yX5_init cX5_init 1 none ∈ ax_U := ax_in 255 (by decide +kernel) rfl
theorem ii_X5 : Cond.initialized RX5 ∈ ax_U := ax_in 8 (by decide +kernel) rfl
theorem im_X5 : Cond.instanceMethod yX5_init ∈ ax_U := ax_in 254 (by decide +kernel) rfl
theorem in_X5 : Cond.instantiable RX5 3 ∈ ax_U := ax_in 252 (by decide +kernel) rfl
theorem df_X5 : ∀ j, j < 3 → defaultValue (tyX5 j) = vp_V [.null, .int 0, .int 0] j := fun j hj => by
  rcases (show j = 0 ∨ j = 1 ∨ j = 2 by omega) with rfl | rfl | rfl <;> rfl
theorem io_X5 : Cond.methodLink RX5 3 objectInit ∈ ax_U := ax_in 256 (by decide +kernel) rfl
theorem fi_X5_11 : Cond.fieldLink RX5 11 "CopperTies$History" "rows" "[I" ∈ ax_U := ax_in 257 (by decide +kernel) rfl
abbrev b_X5 (dC : Nat → ClassId) (dI : Nat → Nat → Nat) (cI cZ : ClassId) (h0 sz : Nat) (t : State) : Prop := ∃ q1 : Nat, va_P (dC, dI) vwCl [(h0, .inr (5, [.ref q1, .int 0, .int 0])), (q1, .inl (cI, 1440, .inl (fun _ => 0)))] t.heap ∧ va_D (va_A [(h0, .inr (5, [.null, .int 0, .int 0]))] sz) [(h0, .inr (5, [.ref q1, .int 0, .int 0])), (q1, .inl (cI, 1440, .inl (fun _ => 0)))]
set_option maxHeartbeats 8000000 in
set_option maxRecDepth 100000 in
theorem k_X5 (l : Launch) (dC : Nat → ClassId) (dI : Nat → Nat → Nat) (cI cZ : ClassId) (h0 sz : Nat) : Met l yX5_init (ax_ws mX5_init) { frames := 2, cells := 1, slots := 1440, locals := 64 } (cnP dC dI cI cZ sz [.ref h0] (h0, .inr (5, [.null, .int 0, .int 0])) []) (va_Qv (fun _ : Unit => True) (fun _ t => b_X5 dC dI cI cZ h0 sz t) (va_A [(h0, .inr (5, [.null, .int 0, .int 0]))] sz)) 1 1440 (va_A [(h0, .inr (5, [.null, .int 0, .int 0]))] sz) := by
  refine cn_of (M := mX5_init) (fun sz t => b_X5 dC dI cI cZ h0 sz t) (by decide +kernel) rfl rfl (Nat.le_of_ble_eq_true rfl) ?_
  intro p e s m below meth c ls C hnl hl hP hD hS
  have hx := C.1
  have hb : c.code = cX5_init := C.2.1
  have hown : s.vm.findClass RX5 = some m.cls := C.2.2.2.1
  have hts := C.2.2.2.2.1
  have hK := C.2.2.2.2.2.1
  have hA := C.2.2.2.2.2.2.1
  have hl : lv_has ls 1 [(0, .ref h0)] := hl
  refine lv_aload_n hx hb dX5_init_0 rfl (lv_at hl 0 rfl) ?_
  refine W.objInit hx hb hown (hts _ io_X5) (hts _ io_i) (hts _ io_c) rfl (hl.1.trans C.2.2.1.symm) rfl dX5_init_1 (Nat.le_of_ble_eq_true rfl) (Nat.le_of_ble_eq_true rfl) ?_
  refine lv_aload_n hx hb dX5_init_4 rfl (lv_at hl 0 rfl) ?_
  refine lv_sipush (v := 1440) hx hb dX5_init_5 (by decide) ?_
  refine cn_int (N' := 1440) C hP hD hS (ci := 5) (T := TX5) rfl 0 (by decide) fi_X5_11 rfl (tyX5_ok 0 (by decide)) (fun _ => rfl) (fun _ => rfl) (Nat.le_of_ble_eq_true rfl) (by decide) (by decide) (Nat.le_of_ble_eq_true rfl) (Nat.le_of_ble_eq_true rfl) (Nat.le_of_ble_eq_true rfl) dX5_init_8 dX5_init_10 (fun q1 H locs hP hD hS => ?_)
  have hP : va_P (dC, dI) vwCl [(h0, .inr (5, [.ref q1, .int 0, .int 0])), (q1, .inl (cI, 1440, .inl (fun _ => 0)))] H := hP
  have hD : va_D _ [(h0, .inr (5, [.ref q1, .int 0, .int 0])), (q1, .inl (cI, 1440, .inl (fun _ => 0)))] := hD
  refine W.widen (k := 1) (n := 1440) (Nat.le_of_ble_eq_true rfl) (Nat.le_of_ble_eq_true rfl) ?_
  exact W.vret hx hb C.2.2.2.2.2.2.2.2.2 (fun t ht hW => ⟨⟨(), rfl, trivial, q1, by rw [ht]; exact hP, hD⟩, hS.F ht⟩) hS.2.2 dX5_init_13 C.2.2.2.2.2.2.2.2.1
abbrev mX2_init : ax_M := (yX2_init, cX2_init, 1, none)
theorem ic_X2 : Cond.code yX2_init cX2_init 1 none ∈ ax_U := ax_in 272 (by decide +kernel) rfl
theorem ii_X2 : Cond.initialized RX2 ∈ ax_U := ax_in 9 (by decide +kernel) rfl
theorem im_X2 : Cond.instanceMethod yX2_init ∈ ax_U := ax_in 271 (by decide +kernel) rfl
theorem in_X2 : Cond.instantiable RX2 4 ∈ ax_U := ax_in 269 (by decide +kernel) rfl
theorem df_X2 : ∀ j, j < 4 → defaultValue (tyX2 j) = vp_V [.null, .null, .int 0, .int 0] j := fun j hj => by
  rcases (show j = 0 ∨ j = 1 ∨ j = 2 ∨ j = 3 by omega) with rfl | rfl | rfl | rfl <;> rfl
theorem io_X2 : Cond.methodLink RX2 3 objectInit ∈ ax_U := ax_in 273 (by decide +kernel) rfl
theorem fi_X2_11 : Cond.fieldLink RX2 11 "CopperTies$Chronicle" "ring" "[I" ∈ ax_U := ax_in 274 (by decide +kernel) rfl
theorem fi_X2_15 : Cond.fieldLink RX2 15 "CopperTies$Chronicle" "kept" "[I" ∈ ax_U := ax_in 275 (by decide +kernel) rfl
abbrev b_X2 (dC : Nat → ClassId) (dI : Nat → Nat → Nat) (cI cZ : ClassId) (h0 sz : Nat) (t : State) : Prop := ∃ q1 q2 : Nat, va_P (dC, dI) vwCl [(h0, .inr (2, [.ref q1, .ref q2, .int 0, .int 0])), (q1, .inl (cI, 384, .inl (fun _ => 0))), (q2, .inl (cI, 180, .inl (fun _ => 0)))] t.heap ∧ va_D (va_A [(h0, .inr (2, [.null, .null, .int 0, .int 0]))] sz) [(h0, .inr (2, [.ref q1, .ref q2, .int 0, .int 0])), (q1, .inl (cI, 384, .inl (fun _ => 0))), (q2, .inl (cI, 180, .inl (fun _ => 0)))]
set_option maxHeartbeats 8000000 in
set_option maxRecDepth 100000 in
theorem k_X2 (l : Launch) (dC : Nat → ClassId) (dI : Nat → Nat → Nat) (cI cZ : ClassId) (h0 sz : Nat) : Met l yX2_init (ax_ws mX2_init) { frames := 2, cells := 2, slots := 564, locals := 64 } (cnP dC dI cI cZ sz [.ref h0] (h0, .inr (2, [.null, .null, .int 0, .int 0])) []) (va_Qv (fun _ : Unit => True) (fun _ t => b_X2 dC dI cI cZ h0 sz t) (va_A [(h0, .inr (2, [.null, .null, .int 0, .int 0]))] sz)) 2 564 (va_A [(h0, .inr (2, [.null, .null, .int 0, .int 0]))] sz) := by
  refine cn_of (M := mX2_init) (fun sz t => b_X2 dC dI cI cZ h0 sz t) (by decide +kernel) rfl rfl (Nat.le_of_ble_eq_true rfl) ?_
  intro p e s m below meth c ls C hnl hl hP hD hS
  have hx := C.1
  have hb : c.code = cX2_init := C.2.1
  have hown : s.vm.findClass RX2 = some m.cls := C.2.2.2.1
  have hts := C.2.2.2.2.1
  have hK := C.2.2.2.2.2.1
  have hA := C.2.2.2.2.2.2.1
  have hl : lv_has ls 1 [(0, .ref h0)] := hl
  refine lv_aload_n hx hb dX2_init_0 rfl (lv_at hl 0 rfl) ?_
  refine W.objInit hx hb hown (hts _ io_X2) (hts _ io_i) (hts _ io_c) rfl (hl.1.trans C.2.2.1.symm) rfl dX2_init_1 (Nat.le_of_ble_eq_true rfl) (Nat.le_of_ble_eq_true rfl) ?_
  refine lv_aload_n hx hb dX2_init_4 rfl (lv_at hl 0 rfl) ?_
  refine lv_sipush (v := 384) hx hb dX2_init_5 (by decide) ?_
  refine cn_int (N' := 384) C hP hD hS (ci := 2) (T := TX2) rfl 0 (by decide) fi_X2_11 rfl (tyX2_ok 0 (by decide)) (fun _ => rfl) (fun _ => rfl) (Nat.le_of_ble_eq_true rfl) (by decide) (by decide) (Nat.le_of_ble_eq_true rfl) (Nat.le_of_ble_eq_true rfl) (Nat.le_of_ble_eq_true rfl) dX2_init_8 dX2_init_10 (fun q1 H locs hP hD hS => ?_)
  have hP : va_P (dC, dI) vwCl [(h0, .inr (2, [.ref q1, .null, .int 0, .int 0])), (q1, .inl (cI, 384, .inl (fun _ => 0)))] H := hP
  have hD : va_D _ [(h0, .inr (2, [.ref q1, .null, .int 0, .int 0])), (q1, .inl (cI, 384, .inl (fun _ => 0)))] := hD
  refine lv_aload_n hx hb dX2_init_13 rfl (lv_at hl 0 rfl) ?_
  refine lv_sipush (v := 180) hx hb dX2_init_14 (by decide) ?_
  refine cn_int (N' := 180) C hP hD hS (ci := 2) (T := TX2) rfl 1 (by decide) fi_X2_15 rfl (tyX2_ok 1 (by decide)) (fun _ => rfl) (fun _ => rfl) (Nat.le_of_ble_eq_true rfl) (by decide) (by decide) (Nat.le_of_ble_eq_true rfl) (Nat.le_of_ble_eq_true rfl) (Nat.le_of_ble_eq_true rfl) dX2_init_17 dX2_init_19 (fun q2 H locs hP hD hS => ?_)
  have hP : va_P (dC, dI) vwCl [(h0, .inr (2, [.ref q1, .ref q2, .int 0, .int 0])), (q1, .inl (cI, 384, .inl (fun _ => 0))), (q2, .inl (cI, 180, .inl (fun _ => 0)))] H := hP
  have hD : va_D _ [(h0, .inr (2, [.ref q1, .ref q2, .int 0, .int 0])), (q1, .inl (cI, 384, .inl (fun _ => 0))), (q2, .inl (cI, 180, .inl (fun _ => 0)))] := hD
  refine W.widen (k := 2) (n := 564) (Nat.le_of_ble_eq_true rfl) (Nat.le_of_ble_eq_true rfl) ?_
  exact W.vret hx hb C.2.2.2.2.2.2.2.2.2 (fun t ht hW => ⟨⟨(), rfl, trivial, q1, q2, by rw [ht]; exact hP, hD⟩, hS.F ht⟩) hS.2.2 dX2_init_22 C.2.2.2.2.2.2.2.2.1
abbrev mX3_init : ax_M := (yX3_init, cX3_init, 1, none)
theorem ic_X3 : Cond.code yX3_init cX3_init 1 none ∈ ax_U := ax_in 292 (by decide +kernel) rfl
theorem ii_X3 : Cond.initialized RX3 ∈ ax_U := ax_in 10 (by decide +kernel) rfl
theorem im_X3 : Cond.instanceMethod yX3_init ∈ ax_U := ax_in 291 (by decide +kernel) rfl
theorem in_X3 : Cond.instantiable RX3 5 ∈ ax_U := ax_in 289 (by decide +kernel) rfl
theorem df_X3 : ∀ j, j < 5 → defaultValue (tyX3 j) = vp_V [.null, .null, .null, .null, .int 0] j := fun j hj => by
  rcases (show j = 0 ∨ j = 1 ∨ j = 2 ∨ j = 3 ∨ j = 4 by omega) with rfl | rfl | rfl | rfl | rfl <;> rfl
theorem io_X3 : Cond.methodLink RX3 3 objectInit ∈ ax_U := ax_in 293 (by decide +kernel) rfl
theorem fi_X3_9 : Cond.fieldLink RX3 9 "CopperTies$Clues" "struck" "[I" ∈ ax_U := ax_in 294 (by decide +kernel) rfl
theorem fi_X3_15 : Cond.fieldLink RX3 15 "CopperTies$Clues" "strength" "[I" ∈ ax_U := ax_in 296 (by decide +kernel) rfl
theorem fi_X3_18 : Cond.fieldLink RX3 18 "CopperTies$Clues" "seen" "[I" ∈ ax_U := ax_in 298 (by decide +kernel) rfl
theorem fi_X3_21 : Cond.fieldLink RX3 21 "CopperTies$Clues" "burnt" "[I" ∈ ax_U := ax_in 300 (by decide +kernel) rfl
abbrev b_X3 (dC : Nat → ClassId) (dI : Nat → Nat → Nat) (cI cZ : ClassId) (h0 sz : Nat) (t : State) : Prop := ∃ q1 q2 q3 q4 : Nat, va_P (dC, dI) vwCl [(h0, .inr (3, [.ref q1, .ref q2, .ref q3, .ref q4, .int 0])), (q1, .inl (cI, 10, .inl (fun _ => 0))), (q2, .inl (cI, 10, .inl (fun _ => 0))), (q3, .inl (cI, 10, .inl (fun _ => 0))), (q4, .inl (cI, 10, .inl (fun _ => 0)))] t.heap ∧ va_D (va_A [(h0, .inr (3, [.null, .null, .null, .null, .int 0]))] sz) [(h0, .inr (3, [.ref q1, .ref q2, .ref q3, .ref q4, .int 0])), (q1, .inl (cI, 10, .inl (fun _ => 0))), (q2, .inl (cI, 10, .inl (fun _ => 0))), (q3, .inl (cI, 10, .inl (fun _ => 0))), (q4, .inl (cI, 10, .inl (fun _ => 0)))]
set_option maxHeartbeats 8000000 in
set_option maxRecDepth 100000 in
theorem k_X3 (l : Launch) (dC : Nat → ClassId) (dI : Nat → Nat → Nat) (cI cZ : ClassId) (h0 sz : Nat) : Met l yX3_init (ax_ws mX3_init) { frames := 2, cells := 4, slots := 40, locals := 64 } (cnP dC dI cI cZ sz [.ref h0] (h0, .inr (3, [.null, .null, .null, .null, .int 0])) []) (va_Qv (fun _ : Unit => True) (fun _ t => b_X3 dC dI cI cZ h0 sz t) (va_A [(h0, .inr (3, [.null, .null, .null, .null, .int 0]))] sz)) 4 40 (va_A [(h0, .inr (3, [.null, .null, .null, .null, .int 0]))] sz) := by
  refine cn_of (M := mX3_init) (fun sz t => b_X3 dC dI cI cZ h0 sz t) (by decide +kernel) rfl rfl (Nat.le_of_ble_eq_true rfl) ?_
  intro p e s m below meth c ls C hnl hl hP hD hS
  have hx := C.1
  have hb : c.code = cX3_init := C.2.1
  have hown : s.vm.findClass RX3 = some m.cls := C.2.2.2.1
  have hts := C.2.2.2.2.1
  have hK := C.2.2.2.2.2.1
  have hA := C.2.2.2.2.2.2.1
  have hl : lv_has ls 1 [(0, .ref h0)] := hl
  refine lv_aload_n hx hb dX3_init_0 rfl (lv_at hl 0 rfl) ?_
  refine W.objInit hx hb hown (hts _ io_X3) (hts _ io_i) (hts _ io_c) rfl (hl.1.trans C.2.2.1.symm) rfl dX3_init_1 (Nat.le_of_ble_eq_true rfl) (Nat.le_of_ble_eq_true rfl) ?_
  refine lv_aload_n hx hb dX3_init_4 rfl (lv_at hl 0 rfl) ?_
  refine lv_bipush (v := 10) hx hb dX3_init_5 (by decide) ?_
  refine cn_int (N' := 10) C hP hD hS (ci := 3) (T := TX3) rfl 0 (by decide) fi_X3_9 rfl (tyX3_ok 0 (by decide)) (fun _ => rfl) (fun _ => rfl) (Nat.le_of_ble_eq_true rfl) (by decide) (by decide) (Nat.le_of_ble_eq_true rfl) (Nat.le_of_ble_eq_true rfl) (Nat.le_of_ble_eq_true rfl) dX3_init_7 dX3_init_9 (fun q1 H locs hP hD hS => ?_)
  have hP : va_P (dC, dI) vwCl [(h0, .inr (3, [.ref q1, .null, .null, .null, .int 0])), (q1, .inl (cI, 10, .inl (fun _ => 0)))] H := hP
  have hD : va_D _ [(h0, .inr (3, [.ref q1, .null, .null, .null, .int 0])), (q1, .inl (cI, 10, .inl (fun _ => 0)))] := hD
  refine lv_aload_n hx hb dX3_init_12 rfl (lv_at hl 0 rfl) ?_
  refine lv_bipush (v := 10) hx hb dX3_init_13 (by decide) ?_
  refine cn_int (N' := 10) C hP hD hS (ci := 3) (T := TX3) rfl 1 (by decide) fi_X3_15 rfl (tyX3_ok 1 (by decide)) (fun _ => rfl) (fun _ => rfl) (Nat.le_of_ble_eq_true rfl) (by decide) (by decide) (Nat.le_of_ble_eq_true rfl) (Nat.le_of_ble_eq_true rfl) (Nat.le_of_ble_eq_true rfl) dX3_init_15 dX3_init_17 (fun q2 H locs hP hD hS => ?_)
  have hP : va_P (dC, dI) vwCl [(h0, .inr (3, [.ref q1, .ref q2, .null, .null, .int 0])), (q1, .inl (cI, 10, .inl (fun _ => 0))), (q2, .inl (cI, 10, .inl (fun _ => 0)))] H := hP
  have hD : va_D _ [(h0, .inr (3, [.ref q1, .ref q2, .null, .null, .int 0])), (q1, .inl (cI, 10, .inl (fun _ => 0))), (q2, .inl (cI, 10, .inl (fun _ => 0)))] := hD
  refine lv_aload_n hx hb dX3_init_20 rfl (lv_at hl 0 rfl) ?_
  refine lv_bipush (v := 10) hx hb dX3_init_21 (by decide) ?_
  refine cn_int (N' := 10) C hP hD hS (ci := 3) (T := TX3) rfl 2 (by decide) fi_X3_18 rfl (tyX3_ok 2 (by decide)) (fun _ => rfl) (fun _ => rfl) (Nat.le_of_ble_eq_true rfl) (by decide) (by decide) (Nat.le_of_ble_eq_true rfl) (Nat.le_of_ble_eq_true rfl) (Nat.le_of_ble_eq_true rfl) dX3_init_23 dX3_init_25 (fun q3 H locs hP hD hS => ?_)
  have hP : va_P (dC, dI) vwCl [(h0, .inr (3, [.ref q1, .ref q2, .ref q3, .null, .int 0])), (q1, .inl (cI, 10, .inl (fun _ => 0))), (q2, .inl (cI, 10, .inl (fun _ => 0))), (q3, .inl (cI, 10, .inl (fun _ => 0)))] H := hP
  have hD : va_D _ [(h0, .inr (3, [.ref q1, .ref q2, .ref q3, .null, .int 0])), (q1, .inl (cI, 10, .inl (fun _ => 0))), (q2, .inl (cI, 10, .inl (fun _ => 0))), (q3, .inl (cI, 10, .inl (fun _ => 0)))] := hD
  refine lv_aload_n hx hb dX3_init_28 rfl (lv_at hl 0 rfl) ?_
  refine lv_bipush (v := 10) hx hb dX3_init_29 (by decide) ?_
  refine cn_int (N' := 10) C hP hD hS (ci := 3) (T := TX3) rfl 3 (by decide) fi_X3_21 rfl (tyX3_ok 3 (by decide)) (fun _ => rfl) (fun _ => rfl) (Nat.le_of_ble_eq_true rfl) (by decide) (by decide) (Nat.le_of_ble_eq_true rfl) (Nat.le_of_ble_eq_true rfl) (Nat.le_of_ble_eq_true rfl) dX3_init_31 dX3_init_33 (fun q4 H locs hP hD hS => ?_)
  have hP : va_P (dC, dI) vwCl [(h0, .inr (3, [.ref q1, .ref q2, .ref q3, .ref q4, .int 0])), (q1, .inl (cI, 10, .inl (fun _ => 0))), (q2, .inl (cI, 10, .inl (fun _ => 0))), (q3, .inl (cI, 10, .inl (fun _ => 0))), (q4, .inl (cI, 10, .inl (fun _ => 0)))] H := hP
  have hD : va_D _ [(h0, .inr (3, [.ref q1, .ref q2, .ref q3, .ref q4, .int 0])), (q1, .inl (cI, 10, .inl (fun _ => 0))), (q2, .inl (cI, 10, .inl (fun _ => 0))), (q3, .inl (cI, 10, .inl (fun _ => 0))), (q4, .inl (cI, 10, .inl (fun _ => 0)))] := hD
  refine W.widen (k := 4) (n := 40) (Nat.le_of_ble_eq_true rfl) (Nat.le_of_ble_eq_true rfl) ?_
  exact W.vret hx hb C.2.2.2.2.2.2.2.2.2 (fun t ht hW => ⟨⟨(), rfl, trivial, q1, q2, q3, q4, by rw [ht]; exact hP, hD⟩, hS.F ht⟩) hS.2.2 dX3_init_36 C.2.2.2.2.2.2.2.2.1
abbrev mX4_init : ax_M := (yX4_init, cX4_init, 2, none)
theorem ic_X4 : Cond.code yX4_init cX4_init 2 none ∈ ax_U := ax_in 319 (by decide +kernel) rfl
theorem ii_X4 : Cond.initialized RX4 ∈ ax_U := ax_in 11 (by decide +kernel) rfl
theorem im_X4 : Cond.instanceMethod yX4_init ∈ ax_U := ax_in 318 (by decide +kernel) rfl
theorem in_X4 : Cond.instantiable RX4 4 ∈ ax_U := ax_in 316 (by decide +kernel) rfl
theorem df_X4 : ∀ j, j < 4 → defaultValue (tyX4 j) = vp_V [.null, .null, .int 0, .int 0] j := fun j hj => by
  rcases (show j = 0 ∨ j = 1 ∨ j = 2 ∨ j = 3 by omega) with rfl | rfl | rfl | rfl <;> rfl
theorem io_X4 : Cond.methodLink RX4 3 objectInit ∈ ax_U := ax_in 320 (by decide +kernel) rfl
theorem fi_X4_9 : Cond.fieldLink RX4 9 "CopperTies$Couples" "partne\x72" "[I" ∈ ax_U := ax_in 322 (by decide +kernel) rfl
theorem fi_X4_15 : Cond.fieldLink RX4 15 "CopperTies$Couples" "belt" "LCopperTies$Belt;" ∈ ax_U := ax_in 321 (by decide +kernel) rfl
abbrev b_X4 (dC : Nat → ClassId) (dI : Nat → Nat → Nat) (cI cZ : ClassId) (h0 a1 sz : Nat) (t : State) : Prop := ∃ q1 : Nat, va_P (dC, dI) vwCl [(h0, .inr (4, [.ref a1, .ref q1, .int 0, .int 0])), (q1, .inl (cI, 8, .inl (fun _ => 0)))] t.heap ∧ va_D (va_A [(h0, .inr (4, [.null, .null, .int 0, .int 0]))] sz) [(h0, .inr (4, [.ref a1, .ref q1, .int 0, .int 0])), (q1, .inl (cI, 8, .inl (fun _ => 0)))]
set_option maxHeartbeats 8000000 in
set_option maxRecDepth 100000 in
theorem k_X4 (l : Launch) (dC : Nat → ClassId) (dI : Nat → Nat → Nat) (cI cZ : ClassId) (h0 a1 sz : Nat) : Met l yX4_init (ax_ws mX4_init) { frames := 2, cells := 1, slots := 8, locals := 64 } (cnP dC dI cI cZ sz [.ref h0, .ref a1] (h0, .inr (4, [.null, .null, .int 0, .int 0])) []) (va_Qv (fun _ : Unit => True) (fun _ t => b_X4 dC dI cI cZ h0 a1 sz t) (va_A [(h0, .inr (4, [.null, .null, .int 0, .int 0]))] sz)) 1 8 (va_A [(h0, .inr (4, [.null, .null, .int 0, .int 0]))] sz) := by
  refine cn_of (M := mX4_init) (fun sz t => b_X4 dC dI cI cZ h0 a1 sz t) (by decide +kernel) rfl rfl (Nat.le_of_ble_eq_true rfl) ?_
  intro p e s m below meth c ls C hnl hl hP hD hS
  have hx := C.1
  have hb : c.code = cX4_init := C.2.1
  have hown : s.vm.findClass RX4 = some m.cls := C.2.2.2.1
  have hts := C.2.2.2.2.1
  have hK := C.2.2.2.2.2.1
  have hA := C.2.2.2.2.2.2.1
  have hl : lv_has ls 2 [(0, .ref h0), (1, .ref a1)] := hl
  refine lv_aload_n hx hb dX4_init_0 rfl (lv_at hl 0 rfl) ?_
  refine W.objInit hx hb hown (hts _ io_X4) (hts _ io_i) (hts _ io_c) rfl (hl.1.trans C.2.2.1.symm) rfl dX4_init_1 (Nat.le_of_ble_eq_true rfl) (Nat.le_of_ble_eq_true rfl) ?_
  refine lv_aload_n hx hb dX4_init_4 rfl (lv_at hl 0 rfl) ?_
  refine lv_bipush (v := 8) hx hb dX4_init_5 (by decide) ?_
  refine cn_int (N' := 8) C hP hD hS (ci := 4) (T := TX4) rfl 1 (by decide) fi_X4_9 rfl (tyX4_ok 1 (by decide)) (fun _ => rfl) (fun _ => rfl) (Nat.le_of_ble_eq_true rfl) (by decide) (by decide) (Nat.le_of_ble_eq_true rfl) (Nat.le_of_ble_eq_true rfl) (Nat.le_of_ble_eq_true rfl) dX4_init_7 dX4_init_9 (fun q1 H locs hP hD hS => ?_)
  have hP : va_P (dC, dI) vwCl [(h0, .inr (4, [.null, .ref q1, .int 0, .int 0])), (q1, .inl (cI, 8, .inl (fun _ => 0)))] H := hP
  have hD : va_D _ [(h0, .inr (4, [.null, .ref q1, .int 0, .int 0])), (q1, .inl (cI, 8, .inl (fun _ => 0)))] := hD
  refine lv_aload_n hx hb dX4_init_12 rfl (lv_at hl 0 rfl) ?_
  refine lv_aload_n hx hb dX4_init_13 rfl (lv_at hl 1 rfl) ?_
  refine cn_pf (v := .ref a1) C hP hD hS (ci := 4) (T := TX4) rfl 0 (by decide) fi_X4_15 rfl (tyX4_ok 0 (by decide)) rfl rfl (Nat.le_of_ble_eq_true rfl) dX4_init_14 (fun H locs hP hD hS => ?_)
  have hP : va_P (dC, dI) vwCl [(h0, .inr (4, [.ref a1, .ref q1, .int 0, .int 0])), (q1, .inl (cI, 8, .inl (fun _ => 0)))] H := hP
  have hD : va_D _ [(h0, .inr (4, [.ref a1, .ref q1, .int 0, .int 0])), (q1, .inl (cI, 8, .inl (fun _ => 0)))] := hD
  refine W.widen (k := 1) (n := 8) (Nat.le_of_ble_eq_true rfl) (Nat.le_of_ble_eq_true rfl) ?_
  exact W.vret hx hb C.2.2.2.2.2.2.2.2.2 (fun t ht hW => ⟨⟨(), rfl, trivial, q1, by rw [ht]; exact hP, hD⟩, hS.F ht⟩) hS.2.2 dX4_init_17 C.2.2.2.2.2.2.2.2.1
abbrev mX10_init : ax_M := (yX10_init, cX10_init, 1, none)
theorem ic_X10 : Cond.code yX10_init cX10_init 1 none ∈ ax_U := ax_in 340 (by decide +kernel) rfl
theorem ii_X10 : Cond.initialized RX10 ∈ ax_U := ax_in 12 (by decide +kernel) rfl
theorem im_X10 : Cond.instanceMethod yX10_init ∈ ax_U := ax_in 339 (by decide +kernel) rfl
theorem in_X10 : Cond.instantiable RX10 2 ∈ ax_U := ax_in 337 (by decide +kernel) rfl
theorem df_X10 : ∀ j, j < 2 → defaultValue (tyX10 j) = vp_V [.null, .int 0] j := fun j hj => by
  rcases (show j = 0 ∨ j = 1 by omega) with rfl | rfl <;> rfl
theorem io_X10 : Cond.methodLink RX10 3 objectInit ∈ ax_U := ax_in 341 (by decide +kernel) rfl
theorem fi_X10_11 : Cond.fieldLink RX10 11 "CopperTies$WireSets" "row" "[I" ∈ ax_U := ax_in 342 (by decide +kernel) rfl
abbrev b_X10 (dC : Nat → ClassId) (dI : Nat → Nat → Nat) (cI cZ : ClassId) (h0 sz : Nat) (t : State) : Prop := ∃ q1 : Nat, va_P (dC, dI) vwCl [(h0, .inr (10, [.ref q1, .int 0])), (q1, .inl (cI, 120, .inl (fun _ => 0)))] t.heap ∧ va_D (va_A [(h0, .inr (10, [.null, .int 0]))] sz) [(h0, .inr (10, [.ref q1, .int 0])), (q1, .inl (cI, 120, .inl (fun _ => 0)))]
set_option maxHeartbeats 8000000 in
set_option maxRecDepth 100000 in
theorem k_X10 (l : Launch) (dC : Nat → ClassId) (dI : Nat → Nat → Nat) (cI cZ : ClassId) (h0 sz : Nat) : Met l yX10_init (ax_ws mX10_init) { frames := 2, cells := 1, slots := 120, locals := 64 } (cnP dC dI cI cZ sz [.ref h0] (h0, .inr (10, [.null, .int 0])) []) (va_Qv (fun _ : Unit => True) (fun _ t => b_X10 dC dI cI cZ h0 sz t) (va_A [(h0, .inr (10, [.null, .int 0]))] sz)) 1 120 (va_A [(h0, .inr (10, [.null, .int 0]))] sz) := by
  refine cn_of (M := mX10_init) (fun sz t => b_X10 dC dI cI cZ h0 sz t) (by decide +kernel) rfl rfl (Nat.le_of_ble_eq_true rfl) ?_
  intro p e s m below meth c ls C hnl hl hP hD hS
  have hx := C.1
  have hb : c.code = cX10_init := C.2.1
  have hown : s.vm.findClass RX10 = some m.cls := C.2.2.2.1
  have hts := C.2.2.2.2.1
  have hK := C.2.2.2.2.2.1
  have hA := C.2.2.2.2.2.2.1
  have hl : lv_has ls 1 [(0, .ref h0)] := hl
  refine lv_aload_n hx hb dX10_init_0 rfl (lv_at hl 0 rfl) ?_
  refine W.objInit hx hb hown (hts _ io_X10) (hts _ io_i) (hts _ io_c) rfl (hl.1.trans C.2.2.1.symm) rfl dX10_init_1 (Nat.le_of_ble_eq_true rfl) (Nat.le_of_ble_eq_true rfl) ?_
  refine lv_aload_n hx hb dX10_init_4 rfl (lv_at hl 0 rfl) ?_
  refine lv_bipush (v := 120) hx hb dX10_init_5 (by decide) ?_
  refine cn_int (N' := 120) C hP hD hS (ci := 10) (T := TX10) rfl 0 (by decide) fi_X10_11 rfl (tyX10_ok 0 (by decide)) (fun _ => rfl) (fun _ => rfl) (Nat.le_of_ble_eq_true rfl) (by decide) (by decide) (Nat.le_of_ble_eq_true rfl) (Nat.le_of_ble_eq_true rfl) (Nat.le_of_ble_eq_true rfl) dX10_init_7 dX10_init_9 (fun q1 H locs hP hD hS => ?_)
  have hP : va_P (dC, dI) vwCl [(h0, .inr (10, [.ref q1, .int 0])), (q1, .inl (cI, 120, .inl (fun _ => 0)))] H := hP
  have hD : va_D _ [(h0, .inr (10, [.ref q1, .int 0])), (q1, .inl (cI, 120, .inl (fun _ => 0)))] := hD
  refine W.widen (k := 1) (n := 120) (Nat.le_of_ble_eq_true rfl) (Nat.le_of_ble_eq_true rfl) ?_
  exact W.vret hx hb C.2.2.2.2.2.2.2.2.2 (fun t ht hW => ⟨⟨(), rfl, trivial, q1, by rw [ht]; exact hP, hD⟩, hS.F ht⟩) hS.2.2 dX10_init_12 C.2.2.2.2.2.2.2.2.1
