/-! ===== three more cases of the law's switch ===== -/
theorem bW_push6 {own : String} {cc : ByteArray} {nL : Nat} {dC : Nat → ClassId} {dI : Nat → Nat → Nat} {G G' : ax_G} {wo : va_W} {cells slots : Nat} {p : Program} {l : Launch} {e : Env} {R : Room} {s : State} {m : MethodId} {args : Array Value} {below : List Frame} {meth : Method} {c : Code} {Z : State → Prop} {lv : List (Nat × Value)} {σ τ : ax_S} {pc : Nat} {rest : List Value} {b L : Nat} {xs : Nat → Int32} {i : Nat} (C : bL own cc nL dC dI G G' wo cells slots p R s m args c) (hX : va_X b L xs s s.heap) (hbl : b < s.heap.size) (h0 : lv[0]? = some (4, .int (nI i))) (h1 : lv[1]? = some (0, .ref b)) (hik : i + 6 < L) (hL : L < 100000)
    (d0 : decode cc pc = .ok (.aload_n 0, 1)) (d1 : decode cc (pc + 1) = .ok (.iload 4, 2)) (d2 : decode cc (pc + 3) = .ok (.bipush 6, 2)) (d3 : decode cc (pc + 5) = .ok (.iadd, 1)) (d4 : decode cc (pc + 6) = .ok (.iaload, 1))
    (kk : bW own cc nL dC dI G G' wo cells slots p l e R s m args below meth c Z (pc + 7) lv (.int (xs (i + 6)) :: rest) σ τ) : bW own cc nL dC dI G G' wo cells slots p l e R s m args below meth c Z pc lv rest σ τ := by
  obtain ⟨⟨c1, c2, c3, c4, c5⟩, -⟩ := C
  intro H locs ls hC hMM hwo hS hl
  refine lv_aload_n c1 c2 d0 rfl (lv_at hl 1 h1) ?_
  refine lv_iload c1 c2 d1 (lv_at hl 0 h0) ?_
  refine lv_bipush (v := nI 6) c1 c2 d2 (by decide) ?_
  refine lv_iadd c1 c2 d3 ?_
  rw [n_add]
  refine va_sld c1 c2 hX hbl (Nat.not_le.mpr hbl) hS (n_in (i + 6) L) d4 ?_
  rw [n_tn (i + 6)]
  exact kk H locs ls hC hMM hwo hS hl
theorem bW_bool {own : String} {cc : ByteArray} {nL : Nat} {dC : Nat → ClassId} {dI : Nat → Nat → Nat} {G G' : ax_G} {wo : va_W} {cells slots : Nat} {p : Program} {l : Launch} {e : Env} {R : Room} {s : State} {m : MethodId} {args : Array Value} {below : List Frame} {meth : Method} {c : Code} {Z : State → Prop} {lv : List (Nat × Value)} {σ τ : ax_S} {pc : Nat} {rest : List Value} {v : Int32} (C : bL own cc nL dC dI G G' wo cells slots p R s m args c) (d0 : decode cc pc = .ok (.ifCond .eq 7, 3)) (d1 : decode cc (pc + 3) = .ok (.iconst 1, 1)) (d2 : decode cc (pc + 4) = .ok (.goto 4, 3)) (d3 : decode cc (pc + 7) = .ok (.iconst 0, 1))
    (kk : bW own cc nL dC dI G G' wo cells slots p l e R s m args below meth c Z (pc + 8) lv (.int (if decide (¬ v = 0) then 1 else 0) :: rest) σ τ) : bW own cc nL dC dI G G' wo cells slots p l e R s m args below meth c Z pc lv (.int v :: rest) σ τ := by
  obtain ⟨⟨c1, c2, c3, c4, c5⟩, -⟩ := C
  intro H locs ls hC hMM hwo hS hl
  have K := kk H locs ls hC hMM hwo hS hl
  refine lv_if_eq c1 c2 (tgt := pc + 7) d0 (by omega) (fun z => ?_) (fun z => ?_)
  · refine lv_iconst (v := 0) c1 c2 d3 (by decide) ?_
    rw [if_neg (by simp [z])] at K
    exact K
  · refine lv_iconst (v := 1) c1 c2 d1 (by decide) ?_
    refine lv_goto c1 c2 (tgt := pc + 8) d2 (by omega) ?_
    rw [if_pos (decide_eq_true z)] at K
    exact K
theorem lc_29 {dC : Nat → ClassId} {dI : Nat → Nat → Nat} {G G' : ax_G} {wo : va_W} {cells slots : Nat} {p : Program} {l : Launch} {e : Env} {R : Room} {s : State} {m : MethodId} {args : Array Value} {below : List Frame} {meth : Method} {c : Code} {Z : State → Prop} {lv : List (Nat × Value)} {σ τ : ax_S} {b L : Nat} {xs : Nat → Int32} {i j : Nat} (C : bL RL cL_law 7 dC dI G G' wo cells slots p R s m args c) (hX : va_X b L xs s s.heap) (hbl : b < s.heap.size) (h0 : lv[0]? = some (4, .int (nI i))) (h1 : lv[1]? = some (0, .ref b)) (h2 : lv[2]? = some (1, .ref (G.1 0))) (h3 : lv[3]? = some (2, .ref (G'.1 0))) (hL : L < 100000) (hi : i + 6 < L) (hj : j ≤ 1000) (h : RR j σ τ) (kk : ∀ u w, RR (j + 1) u w → bW RL cL_law 7 dC dI G G' wo cells slots p l e R s m args below meth c Z 1818 lv [] u w) : bW RL cL_law 7 dC dI G G' wo cells slots p l e R s m args below meth c Z 1216 lv [] σ τ := by
  obtain ⟨v, PC, PM, g1, g2, g3⟩ := good_game h (xs (i + 1)) (xs (i + 2)) (xs (i + 3)) (xs (i + 4)) (xs (i + 5)) (xs (i + 6))
  refine bW_aload C dL_law_1216 h2 rfl ?_
  refine bW_pushes C hX hbl h0 h1 hL [1, 2, 3, 4, 5] 1217 _ (fun k hk => by simp at hk; omega) ⟨⟨dL_law_1217, dL_law_1218, dL_law_1220, dL_law_1221, dL_law_1222⟩, ⟨dL_law_1223, dL_law_1224, dL_law_1226, dL_law_1227, dL_law_1228⟩, ⟨dL_law_1229, dL_law_1230, dL_law_1232, dL_law_1233, dL_law_1234⟩, ⟨dL_law_1235, dL_law_1236, dL_law_1238, dL_law_1239, dL_law_1240⟩, ⟨dL_law_1241, dL_law_1242, dL_law_1244, dL_law_1245, dL_law_1246⟩, trivial⟩ ?_
  refine bW_push6 C hX hbl h0 h1 hi hL dL_law_1247 dL_law_1248 dL_law_1250 dL_law_1252 dL_law_1253 ?_
  refine bW_C (As := [ax_i (xs (i + 1)), ax_i (xs (i + 2)), ax_i (xs (i + 3)), ax_i (xs (i + 4)), ax_i (xs (i + 5)), ax_i (xs (i + 6))]) C dL_law_1254 lk_L_149 shC_0 rfl rfl rfl (by first | exact Nat.zero_le _ | exact (show 1 ≤ 8 by omega)) g1 (fun r u hu => ?_)
  obtain ⟨rfl, hu⟩ := hu
  refine bW_aload C dL_law_1257 h3 rfl ?_
  refine bW_pushes C hX hbl h0 h1 hL [1, 2, 3, 4, 5] 1258 _ (fun k hk => by simp at hk; omega) ⟨⟨dL_law_1258, dL_law_1259, dL_law_1261, dL_law_1262, dL_law_1263⟩, ⟨dL_law_1264, dL_law_1265, dL_law_1267, dL_law_1268, dL_law_1269⟩, ⟨dL_law_1270, dL_law_1271, dL_law_1273, dL_law_1274, dL_law_1275⟩, ⟨dL_law_1276, dL_law_1277, dL_law_1279, dL_law_1280, dL_law_1281⟩, ⟨dL_law_1282, dL_law_1283, dL_law_1285, dL_law_1286, dL_law_1287⟩, trivial⟩ ?_
  refine bW_push6 C hX hbl h0 h1 hi hL dL_law_1288 dL_law_1289 dL_law_1291 dL_law_1293 dL_law_1294 ?_
  refine bW_M (As := [ax_i (xs (i + 1)), ax_i (xs (i + 2)), ax_i (xs (i + 3)), ax_i (xs (i + 4)), ax_i (xs (i + 5)), ax_i (xs (i + 6))]) C dL_law_1295 lk_L_153 shM_0 rfl rfl rfl (by first | exact Nat.zero_le _ | exact (show 1 ≤ 8 by omega)) g2 (fun r w hw => ?_)
  obtain ⟨rfl, hw⟩ := hw
  intro H locs ls hC hMM hwo hS hls
  exact lv_icmp_eq (tgt := 1818) C.1.1 C.1.2.1 dL_law_1298 (by decide) (fun _ => kk u w (g3 u w hu hw) H locs ls hC hMM hwo hS hls) (fun z => absurd rfl z)
theorem lc_32 {dC : Nat → ClassId} {dI : Nat → Nat → Nat} {G G' : ax_G} {wo : va_W} {cells slots : Nat} {p : Program} {l : Launch} {e : Env} {R : Room} {s : State} {m : MethodId} {args : Array Value} {below : List Frame} {meth : Method} {c : Code} {Z : State → Prop} {lv : List (Nat × Value)} {σ τ : ax_S} {b L : Nat} {xs : Nat → Int32} {i j : Nat} (C : bL RL cL_law 7 dC dI G G' wo cells slots p R s m args c) (hX : va_X b L xs s s.heap) (hbl : b < s.heap.size) (h0 : lv[0]? = some (4, .int (nI i))) (h1 : lv[1]? = some (0, .ref b)) (h2 : lv[2]? = some (1, .ref (G.1 0))) (h3 : lv[3]? = some (2, .ref (G'.1 0))) (hL : L < 100000) (hi : i + 6 < L) (hj : j ≤ 1000) (h : RR j σ τ) (kk : ∀ u w, RR (j + 1) u w → bW RL cL_law 7 dC dI G G' wo cells slots p l e R s m args below meth c Z 1818 lv [] u w) : bW RL cL_law 7 dC dI G G' wo cells slots p l e R s m args below meth c Z 1389 lv [] σ τ := by
  obtain ⟨v, PC, PM, g1, g2, g3⟩ := good_scorched h (xs (i + 1)) (xs (i + 2)) (xs (i + 3)) (decide (¬ xs (i + 4) = 0))
  refine bW_aload C dL_law_1389 h2 rfl ?_
  refine bW_pushes C hX hbl h0 h1 hL [1, 2, 3, 4] 1390 _ (fun k hk => by simp at hk; omega) ⟨⟨dL_law_1390, dL_law_1391, dL_law_1393, dL_law_1394, dL_law_1395⟩, ⟨dL_law_1396, dL_law_1397, dL_law_1399, dL_law_1400, dL_law_1401⟩, ⟨dL_law_1402, dL_law_1403, dL_law_1405, dL_law_1406, dL_law_1407⟩, ⟨dL_law_1408, dL_law_1409, dL_law_1411, dL_law_1412, dL_law_1413⟩, trivial⟩ ?_
  refine bW_bool C dL_law_1414 dL_law_1417 dL_law_1418 dL_law_1421 ?_
  refine bW_C (As := [ax_i (xs (i + 1)), ax_i (xs (i + 2)), ax_i (xs (i + 3)), ax_i (if decide (¬ xs (i + 4) = 0) then 1 else 0)]) C dL_law_1422 lk_L_163 shC_0 rfl rfl rfl (by first | exact Nat.zero_le _ | exact (show 1 ≤ 8 by omega)) g1 (fun r u hu => ?_)
  obtain ⟨rfl, hu⟩ := hu
  refine bW_aload C dL_law_1425 h3 rfl ?_
  refine bW_pushes C hX hbl h0 h1 hL [1, 2, 3, 4] 1426 _ (fun k hk => by simp at hk; omega) ⟨⟨dL_law_1426, dL_law_1427, dL_law_1429, dL_law_1430, dL_law_1431⟩, ⟨dL_law_1432, dL_law_1433, dL_law_1435, dL_law_1436, dL_law_1437⟩, ⟨dL_law_1438, dL_law_1439, dL_law_1441, dL_law_1442, dL_law_1443⟩, ⟨dL_law_1444, dL_law_1445, dL_law_1447, dL_law_1448, dL_law_1449⟩, trivial⟩ ?_
  refine bW_bool C dL_law_1450 dL_law_1453 dL_law_1454 dL_law_1457 ?_
  refine bW_M (As := [ax_i (xs (i + 1)), ax_i (xs (i + 2)), ax_i (xs (i + 3)), ax_i (if decide (¬ xs (i + 4) = 0) then 1 else 0)]) C dL_law_1458 lk_L_167 shM_0 rfl rfl rfl (by first | exact Nat.zero_le _ | exact (show 1 ≤ 8 by omega)) g2 (fun r w hw => ?_)
  obtain ⟨rfl, hw⟩ := hw
  intro H locs ls hC hMM hwo hS hls
  exact lv_icmp_eq (tgt := 1818) C.1.1 C.1.2.1 dL_law_1461 (by decide) (fun _ => kk u w (g3 u w hu hw) H locs ls hC hMM hwo hS hls) (fun z => absurd rfl z)
theorem lc_38 {dC : Nat → ClassId} {dI : Nat → Nat → Nat} {G G' : ax_G} {wo : va_W} {cells slots : Nat} {p : Program} {l : Launch} {e : Env} {R : Room} {s : State} {m : MethodId} {args : Array Value} {below : List Frame} {meth : Method} {c : Code} {Z : State → Prop} {lv : List (Nat × Value)} {σ τ : ax_S} {b L : Nat} {xs : Nat → Int32} {i j : Nat} (C : bL RL cL_law 7 dC dI G G' wo cells slots p R s m args c) (hX : va_X b L xs s s.heap) (hbl : b < s.heap.size) (h0 : lv[0]? = some (4, .int (nI i))) (h1 : lv[1]? = some (0, .ref b)) (h2 : lv[2]? = some (1, .ref (G.1 0))) (h3 : lv[3]? = some (2, .ref (G'.1 0))) (hL : L < 100000) (hi : i + 6 < L) (hj : j ≤ 1000) (h : RR j σ τ) (kk : ∀ u w, RR (j + 1) u w → bW RL cL_law 7 dC dI G G' wo cells slots p l e R s m args below meth c Z 1818 lv [] u w) : bW RL cL_law 7 dC dI G G' wo cells slots p l e R s m args below meth c Z 1639 lv [] σ τ := by
  obtain ⟨v, PC, PM, g1, g2, g3⟩ := good_test h (xs (i + 1)) (decide (¬ xs (i + 2) = 0))
  refine bW_aload C dL_law_1639 h2 rfl ?_
  refine bW_pushes C hX hbl h0 h1 hL [1, 2] 1640 _ (fun k hk => by simp at hk; omega) ⟨⟨dL_law_1640, dL_law_1641, dL_law_1643, dL_law_1644, dL_law_1645⟩, ⟨dL_law_1646, dL_law_1647, dL_law_1649, dL_law_1650, dL_law_1651⟩, trivial⟩ ?_
  refine bW_bool C dL_law_1652 dL_law_1655 dL_law_1656 dL_law_1659 ?_
  refine bW_C (As := [ax_i (xs (i + 1)), ax_i (if decide (¬ xs (i + 2) = 0) then 1 else 0)]) C dL_law_1660 lk_L_188 shC_0 rfl rfl rfl (by first | exact Nat.zero_le _ | exact (show 1 ≤ 8 by omega)) g1 (fun r u hu => ?_)
  obtain ⟨rfl, hu⟩ := hu
  refine bW_aload C dL_law_1663 h3 rfl ?_
  refine bW_pushes C hX hbl h0 h1 hL [1, 2] 1664 _ (fun k hk => by simp at hk; omega) ⟨⟨dL_law_1664, dL_law_1665, dL_law_1667, dL_law_1668, dL_law_1669⟩, ⟨dL_law_1670, dL_law_1671, dL_law_1673, dL_law_1674, dL_law_1675⟩, trivial⟩ ?_
  refine bW_bool C dL_law_1676 dL_law_1679 dL_law_1680 dL_law_1683 ?_
  refine bW_M (As := [ax_i (xs (i + 1)), ax_i (if decide (¬ xs (i + 2) = 0) then 1 else 0)]) C dL_law_1684 lk_L_192 shM_0 rfl rfl rfl (by first | exact Nat.zero_le _ | exact (show 1 ≤ 8 by omega)) g2 (fun r w hw => ?_)
  obtain ⟨rfl, hw⟩ := hw
  intro H locs ls hC hMM hwo hS hls
  exact lv_icmp_eq (tgt := 1818) C.1.1 C.1.2.1 dL_law_1687 (by decide) (fun _ => kk u w (g3 u w hu hw) H locs ls hC hMM hwo hS hls) (fun z => absurd rfl z)
