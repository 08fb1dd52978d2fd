/-! ===== the case decades ===== -/
theorem bW_long {cc : ByteArray} {nL : Nat} {dC : Nat → ClassId} {dI : Nat → Nat → Nat} {G G' : ax_G} {wo : va_W} {cells slots : Nat} {p : Program} {l : Launch} {e : Env} {R : Room} {s : State} {m : MethodId} {args : Array Value} {below : List Frame} {meth : Method} {c : Code} {Z : State → Prop} {lv : List (Nat × Value)} {σ τ : ax_S} {pc : Nat} {rest : List Value} {b L : Nat} {xs : Nat → Int32} {i : Nat} (C : bL RL cc nL dC dI G G' wo cells slots p R s m args c) (hX : va_X b L xs s s.heap) (hbl : b < s.heap.size) (h0 : lv[0]? = some (4, .int (nI i))) (h1 : lv[1]? = some (0, .ref b)) (hik : i + 6 < L) (hL : L < 100000)
    (dp : pD cc pc [2]) (e0 : decode cc (pc + 6) = .ok (.i2l, 1)) (e1 : decode cc (pc + 7) = .ok (.bipush 32, 2)) (e2 : decode cc (pc + 9) = .ok (.lshl, 1)) (dp2 : pD cc (pc + 10) [3]) (e3 : decode cc (pc + 16) = .ok (.i2l, 1)) (e4 : decode cc (pc + 17) = .ok (.ldc2_w 85, 3)) (e5 : decode cc (pc + 20) = .ok (.land, 1)) (e6 : decode cc (pc + 21) = .ok (.lor, 1))
    (kk : ∀ y : Int64, y = (((xs (i + 2)).toInt64 <<< ((32 : Int32).toInt64 &&& 63)) ||| ((xs (i + 3)).toInt64 &&& 4294967295)) → bW RL cc nL dC dI G G' wo cells slots p l e R s m args below meth c Z (pc + 22) lv (.long y :: rest) σ τ) : bW RL cc nL dC dI G G' wo cells slots p l e R s m args below meth c Z pc lv rest σ τ := by
  refine bW_pushes C hX hbl h0 h1 hL [2] pc _ (fun k hk => by simp at hk; omega) dp ?_
  have K2 := fun (z : Int64) => bW_pushes (lv := lv) (σ := σ) (τ := τ) (below := below) (meth := meth) (Z := Z) (l := l) (e := e) C hX hbl h0 h1 hL [3] (pc + 10) (.long z :: rest) (fun k hk => by simp at hk; omega) dp2
  intro H locs ls hC hMM hwo hS hl
  have c1 := C.1.1
  have c2 := C.1.2.1
  refine lv_i2l c1 c2 e0 rfl ?_
  refine lv_bipush (v := 32) c1 c2 e1 (by decide) ?_
  refine lv_lshl c1 c2 e2 rfl ?_
  refine K2 _ ?_ H locs ls hC hMM hwo hS hl
  intro H locs ls hC hMM hwo hS hl
  refine lv_i2l c1 c2 e3 rfl ?_
  refine lv_ldc2 c1 c2 C.1.2.2.2.1 (C.1.2.2.2.2 _ kc_L_85) e4 ?_
  refine lv_land c1 c2 e5 ?_
  refine lv_lor c1 c2 e6 ?_
  exact kk _ rfl H locs ls hC hMM hwo hS hl
theorem lc_14 {dC : Nat → ClassId} {dI : Nat → Nat → Nat} {G G' : ax_G} {wo : va_W} {cells slots : Nat} {p : Program} {l : Launch} {e : Env} {R : Room} {s : State} {m : MethodId} {args : Array Value} {below : List Frame} {meth : Method} {c : Code} {Z : State → Prop} {lv : List (Nat × Value)} {σ τ : ax_S} {b L : Nat} {xs : Nat → Int32} {i j : Nat} (C : bL RL cL_law 7 dC dI G G' wo cells slots p R s m args c) (hX : va_X b L xs s s.heap) (hbl : b < s.heap.size) (h0 : lv[0]? = some (4, .int (nI i))) (h1 : lv[1]? = some (0, .ref b)) (h2 : lv[2]? = some (1, .ref (G.1 0))) (h3 : lv[3]? = some (2, .ref (G'.1 0))) (hL : L < 100000) (hi : i + 6 < L) (hj : j ≤ 1000) (h : RR j σ τ) (kk : ∀ u w, RR (j + 1) u w → bW RL cL_law 7 dC dI G G' wo cells slots p l e R s m args below meth c Z 1818 lv [] u w) : bW RL cL_law 7 dC dI G G' wo cells slots p l e R s m args below meth c Z 725 lv [] σ τ := by
  obtain ⟨v, PC, PM, g1, g2, g3⟩ := good_decades hj h (xs (i + 1)) (((xs (i + 2)).toInt64 <<< ((32 : Int32).toInt64 &&& 63)) ||| ((xs (i + 3)).toInt64 &&& 4294967295))
  refine bW_aload C dL_law_725 h2 rfl ?_
  refine bW_pushes C hX hbl h0 h1 hL [1] 726 _ (fun k hk => by simp at hk; omega) ⟨⟨dL_law_726, dL_law_727, dL_law_729, dL_law_730, dL_law_731⟩, trivial⟩ ?_
  refine bW_long C hX hbl h0 h1 hi hL ⟨⟨dL_law_732, dL_law_733, dL_law_735, dL_law_736, dL_law_737⟩, trivial⟩ dL_law_738 dL_law_739 dL_law_741 ⟨⟨dL_law_742, dL_law_743, dL_law_745, dL_law_746, dL_law_747⟩, trivial⟩ dL_law_748 dL_law_749 dL_law_752 dL_law_753 (fun y hy => ?_)
  rw [hy]
  refine bW_C (As := [ax_i (xs (i + 1)), ax_l (((xs (i + 2)).toInt64 <<< ((32 : Int32).toInt64 &&& 63)) ||| ((xs (i + 3)).toInt64 &&& 4294967295))]) C dL_law_754 lk_L_87 shC_0 rfl rfl rfl (by first | exact Nat.zero_le _ | exact (show 1 ≤ 8 by omega)) g1 (fun r u hu => ?_)
  obtain ⟨rfl, hu⟩ := hu
  refine bW_aload C dL_law_757 h3 rfl ?_
  refine bW_pushes C hX hbl h0 h1 hL [1] 758 _ (fun k hk => by simp at hk; omega) ⟨⟨dL_law_758, dL_law_759, dL_law_761, dL_law_762, dL_law_763⟩, trivial⟩ ?_
  refine bW_long C hX hbl h0 h1 hi hL ⟨⟨dL_law_764, dL_law_765, dL_law_767, dL_law_768, dL_law_769⟩, trivial⟩ dL_law_770 dL_law_771 dL_law_773 ⟨⟨dL_law_774, dL_law_775, dL_law_777, dL_law_778, dL_law_779⟩, trivial⟩ dL_law_780 dL_law_781 dL_law_784 dL_law_785 (fun y hy => ?_)
  rw [hy]
  refine bW_M (As := [ax_i (xs (i + 1)), ax_l (((xs (i + 2)).toInt64 <<< ((32 : Int32).toInt64 &&& 63)) ||| ((xs (i + 3)).toInt64 &&& 4294967295))]) C dL_law_786 lk_L_91 shM_0 rfl rfl rfl (by first | exact Nat.zero_le _ | exact (show 1 ≤ 8 by omega)) g2 (fun r w hw => ?_)
  obtain ⟨rfl, hw⟩ := hw
  intro H locs ls hC hMM hwo hS hls
  exact lv_icmp_eq (tgt := 1818) C.1.1 C.1.2.1 dL_law_789 (by decide) (fun _ => kk u w (g3 u w hu hw) H locs ls hC hMM hwo hS hls) (fun z => absurd rfl z)
