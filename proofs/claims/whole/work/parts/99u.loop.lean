/-! ===== the law's loop ===== -/
theorem lt7 {L i : Nat} (hL : L < 100000) (hi : i < 100000) : (nI L - (7 : Int32) < nI i) ↔ L < i + 7 := by
  by_cases h : 7 ≤ L
  · rw [show nI L - (7 : Int32) = nI (L - 7) from n_sub L 7]
    refine (n_lt _ _).trans ?_
    omega
  · have h1 : nI L - (7 : Int32) < 0 := (by decide +kernel : ∀ L, L < 7 → nI L - (7 : Int32) < 0) L (by omega)
    have h2 := n_nn i
    refine ⟨fun _ => by omega, fun _ => ?_⟩
    rw [Int32.lt_iff_toInt_lt] at h1 h2 ⊢
    omega
theorem law_loop {dC : Nat → ClassId} {dI : Nat → Nat → Nat} {G G' : ax_G} {cJ : ClassId} {p : Program} {l : Launch} {e : Env} {R : Room} {s : State} {m : MethodId} {args : Array Value} {below : List Frame} {meth : Method} {c : Code} {Z : State → Prop} {b L ob sa sb : Nat} {xs : Nat → Int32} (c0 s0 : Nat) (hst : l.stackTraces = false) (C : ∀ (F : Nat → Int64) (j : Nat), j ≤ 513 → bL RL cL_law 7 dC dI G G' (wof ob cJ F) (c0 + j) (s0 + 6 * j) p R s m args c) (hfr : 63 ≤ R.frames ∧ 4096 ≤ R.locals) (hcl : c0 + 600 ≤ R.cells ∧ s0 + 3600 ≤ R.slots) (hKJ : va_K (dC, dI) vwCl [(cJ, .long)] s) (hX0 : hsX (fun q => s.heap.size ≤ q) sa sb s s.heap) (hob : s.heap.size ≤ ob) (hX : va_X b L xs s s.heap) (hbl : b < s.heap.size) (hL : L ≤ 3584)
    (kend : ∀ (i : Nat) (F : Nat → Int64) (j : Nat) (σ τ : ax_S), j ≤ 513 → bW RL cL_law 7 dC dI G G' (wof ob cJ F) (c0 + j) (s0 + 6 * j) p l e R s m args below meth c Z 1824 (lvi G G' b ob i) [] σ τ) : ∀ (n i j : Nat) (F : Nat → Int64) (σ τ : ax_S), L ≤ i + n → 7 * j ≤ i → i ≤ L + 7 → RR j σ τ → bW RL cL_law 7 dC dI G G' (wof ob cJ F) (c0 + j) (s0 + 6 * j) p l e R s m args below meth c Z 23 (lvi G G' b ob i) [] σ τ := by
  have c1 := (C (fun _ => 0) 0 (by omega)).1.1
  have c2 := (C (fun _ => 0) 0 (by omega)).1.2.1
  intro n
  induction n with
  | zero =>
    intro i j F σ τ hf hj hi h H locs ls hC hMM hwo hS hl
    refine lv_iload c1 c2 dL_law_23 (lv_at hl 0 rfl) ?_
    refine lv_aload_n c1 c2 dL_law_25 rfl (lv_at hl 1 rfl) ?_
    refine va_slen c1 c2 hX hbl (Nat.not_le.mpr hbl) hS dL_law_26 ?_
    refine lv_bipush (v := 7) c1 c2 dL_law_27 (by decide) ?_
    refine lv_isub c1 c2 dL_law_29 ?_
    refine lv_icmp_gt (tgt := 1824) c1 c2 dL_law_30 (by decide) (fun _ => kend i F j σ τ (by omega) H locs ls hC hMM hwo hS hl) (fun z => absurd ((lt7 (by omega) (by omega)).mpr (by omega)) z)
  | succ n ih =>
    intro i j F σ τ hf hj hi h
    have nxt : ∀ (F : Nat → Int64) (j' : Nat) (u w : ax_S), 7 * j' ≤ i + 7 → i + 6 < L → RR j' u w → bW RL cL_law 7 dC dI G G' (wof ob cJ F) (c0 + j') (s0 + 6 * j') p l e R s m args below meth c Z 1818 (lvi G G' b ob i) [] u w := by
      intro F j' u w hj' hi6 h' H locs ls hC hMM hwo hS hl
      refine lv_iinc (k := 0) (lv' := lvi G G' b ob (i + 7)) c1 c2 dL_law_1818 hl rfl (by exact n_add i 7) (by decide) rfl (fun ls' hl' => ?_)
      refine lv_goto (tgt := 23) c1 c2 dL_law_1821 (by decide) ?_
      exact ih (i + 7) j' F u w (by omega) hj' (by omega) h' H locs ls' hC hMM hwo hS hl'
    intro H locs ls hC hMM hwo hS hl
    refine lv_iload c1 c2 dL_law_23 (lv_at hl 0 rfl) ?_
    refine lv_aload_n c1 c2 dL_law_25 rfl (lv_at hl 1 rfl) ?_
    refine va_slen c1 c2 hX hbl (Nat.not_le.mpr hbl) hS dL_law_26 ?_
    refine lv_bipush (v := 7) c1 c2 dL_law_27 (by decide) ?_
    refine lv_isub c1 c2 dL_law_29 ?_
    refine lv_icmp_gt (tgt := 1824) c1 c2 dL_law_30 (by decide) (fun _ => kend i F j σ τ (by omega) H locs ls hC hMM hwo hS hl) (fun z => ?_)
    have hi6 : i + 6 < L := by
      have : ¬ L < i + 7 := fun q => z ((lt7 (by omega) (by omega)).mpr q)
      omega
    have hj1 : j ≤ 1000 := by omega
    have Cj := C F j (by omega)
    have K : ∀ u w, RR (j + 1) u w → bW RL cL_law 7 dC dI G G' (wof ob cJ F) (c0 + j) (s0 + 6 * j) p l e R s m args below meth c Z 1818 (lvi G G' b ob i) [] u w := fun u w q H locs ls hC hMM hwo hS hl => W.widen (k := c0 + (j + 1)) (n := s0 + 6 * (j + 1)) (by omega) (by omega) (nxt F (j + 1) u w (by omega) hi6 q H locs ls hC hMM hwo hS hl)
    have KH : ∀ (F : Nat → Int64) (u w : ax_S), RR (j + 1) u w → bW RL cL_law 7 dC dI G G' (wof ob cJ F) (c0 + j + 1) (s0 + 6 * j + 6) p l e R s m args below meth c Z 1818 (lvi G G' b ob i) [] u w := fun F u w q H locs ls hC hMM hwo hS hl => W.widen (k := c0 + (j + 1)) (n := s0 + 6 * (j + 1)) (by omega) (by omega) (nxt F (j + 1) u w (by omega) hi6 q H locs ls hC hMM hwo hS hl)
    refine lv_aload_n c1 c2 dL_law_33 rfl (lv_at hl 1 rfl) ?_
    refine lv_iload c1 c2 dL_law_34 (lv_at hl 0 rfl) ?_
    refine va_sld c1 c2 hX hbl (Nat.not_le.mpr hbl) hS (n_in i L) dL_law_36 ?_
    refine lv_bipush (v := 63) c1 c2 dL_law_37 (by decide) ?_
    refine lv_iand c1 c2 dL_law_39 ?_
    generalize xs (Int32.toNatClampNeg (nI i)) &&& (63 : Int32) = x
    by_cases g : ¬ x < nI 0 ∧ ¬ nI 44 < x
    case neg =>
      refine lv_tableOut (tgt := 1818) c1 c2 dL_law_40 ?_ (by decide) (nxt F j σ τ (by omega) hi6 h H locs ls hC hMM hwo hS hl)
      by_cases g1 : x < nI 0
      · left; exact (Int32.lt_iff_toInt_lt).mp g1
      · right
        have g2 : nI 44 < x := Classical.not_not.mp (fun q => g ⟨g1, q⟩)
        exact (Int32.lt_iff_toInt_lt).mp g2
    case pos =>
    obtain ⟨k, -, hk, rfl⟩ := (in_R x 0 44).mp g
    obtain rfl | rfl | rfl | rfl | rfl | rfl | rfl | rfl | rfl | rfl | rfl | rfl | rfl | rfl | rfl | rfl | rfl | rfl | rfl | rfl | rfl | rfl | rfl | rfl | rfl | rfl | rfl | rfl | rfl | rfl | rfl | rfl | rfl | rfl | rfl | rfl | rfl | rfl | rfl | rfl | rfl | rfl | rfl | rfl | rfl : k = 0 ∨ k = 1 ∨ k = 2 ∨ k = 3 ∨ k = 4 ∨ k = 5 ∨ k = 6 ∨ k = 7 ∨ k = 8 ∨ k = 9 ∨ k = 10 ∨ k = 11 ∨ k = 12 ∨ k = 13 ∨ k = 14 ∨ k = 15 ∨ k = 16 ∨ k = 17 ∨ k = 18 ∨ k = 19 ∨ k = 20 ∨ k = 21 ∨ k = 22 ∨ k = 23 ∨ k = 24 ∨ k = 25 ∨ k = 26 ∨ k = 27 ∨ k = 28 ∨ k = 29 ∨ k = 30 ∨ k = 31 ∨ k = 32 ∨ k = 33 ∨ k = 34 ∨ k = 35 ∨ k = 36 ∨ k = 37 ∨ k = 38 ∨ k = 39 ∨ k = 40 ∨ k = 41 ∨ k = 42 ∨ k = 43 ∨ k = 44 := by omega
    · exact lv_tableIn (off := 196) (tgt := 236) c1 c2 dL_law_40 (by decide) (by decide) (by decide) (by decide) ((lc_0 Cj hX hbl rfl rfl rfl rfl (by omega) hi6 hj1 h K) H locs ls hC hMM hwo hS hl)
    · exact lv_tableIn (off := 269) (tgt := 309) c1 c2 dL_law_40 (by decide) (by decide) (by decide) (by decide) ((lc_1 Cj hX hbl rfl rfl rfl rfl (by omega) hi6 hj1 h K) H locs ls hC hMM hwo hS hl)
    · exact lv_tableIn (off := 294) (tgt := 334) c1 c2 dL_law_40 (by decide) (by decide) (by decide) (by decide) ((lc_2 Cj hX hbl rfl rfl rfl rfl (by omega) hi6 hj1 h K) H locs ls hC hMM hwo hS hl)
    · exact lv_tableIn (off := 319) (tgt := 359) c1 c2 dL_law_40 (by decide) (by decide) (by decide) (by decide) ((lc_3 Cj hX hbl rfl rfl rfl rfl (by omega) hi6 hj1 h K) H locs ls hC hMM hwo hS hl)
    · exact lv_tableIn (off := 344) (tgt := 384) c1 c2 dL_law_40 (by decide) (by decide) (by decide) (by decide) ((lc_4 hst (fun F => C F j (by omega)) hfr ⟨by omega, by omega⟩ hKJ hX0 hob hX hbl (by omega) hi6 h KH) H locs ls hC hMM hwo hS hl)
    · exact lv_tableIn (off := 412) (tgt := 452) c1 c2 dL_law_40 (by decide) (by decide) (by decide) (by decide) ((lc_5 Cj hX hbl rfl rfl rfl rfl (by omega) hi6 hj1 h K) H locs ls hC hMM hwo hS hl)
    · exact lv_tableIn (off := 449) (tgt := 489) c1 c2 dL_law_40 (by decide) (by decide) (by decide) (by decide) ((lc_6 Cj hX hbl rfl rfl rfl rfl (by omega) hi6 hj1 h K) H locs ls hC hMM hwo hS hl)
    · exact lv_tableIn (off := 474) (tgt := 514) c1 c2 dL_law_40 (by decide) (by decide) (by decide) (by decide) ((lc_7 Cj hX hbl rfl rfl rfl rfl (by omega) hi6 hj1 h K) H locs ls hC hMM hwo hS hl)
    · exact lv_tableIn (off := 511) (tgt := 551) c1 c2 dL_law_40 (by decide) (by decide) (by decide) (by decide) ((lc_8 Cj hX hbl rfl rfl rfl rfl (by omega) hi6 hj1 h K) H locs ls hC hMM hwo hS hl)
    · exact lv_tableIn (off := 548) (tgt := 588) c1 c2 dL_law_40 (by decide) (by decide) (by decide) (by decide) ((lc_9 Cj hX hbl rfl rfl rfl rfl (by omega) hi6 hj1 h K) H locs ls hC hMM hwo hS hl)
    · exact lv_tableIn (off := 573) (tgt := 613) c1 c2 dL_law_40 (by decide) (by decide) (by decide) (by decide) ((lc_10 Cj hX hbl rfl rfl rfl rfl (by omega) hi6 hj1 h K) H locs ls hC hMM hwo hS hl)
    · exact lv_tableIn (off := 598) (tgt := 638) c1 c2 dL_law_40 (by decide) (by decide) (by decide) (by decide) ((lc_11 Cj hX hbl rfl rfl rfl rfl (by omega) hi6 hj1 h K) H locs ls hC hMM hwo hS hl)
    · exact lv_tableIn (off := 623) (tgt := 663) c1 c2 dL_law_40 (by decide) (by decide) (by decide) (by decide) ((lc_12 Cj hX hbl rfl rfl rfl rfl (by omega) hi6 hj1 h K) H locs ls hC hMM hwo hS hl)
    · exact lv_tableIn (off := 648) (tgt := 688) c1 c2 dL_law_40 (by decide) (by decide) (by decide) (by decide) ((lc_13 Cj hX hbl rfl rfl rfl rfl (by omega) hi6 hj1 h K) H locs ls hC hMM hwo hS hl)
    · exact lv_tableIn (off := 685) (tgt := 725) c1 c2 dL_law_40 (by decide) (by decide) (by decide) (by decide) ((lc_14 Cj hX hbl rfl rfl rfl rfl (by omega) hi6 hj1 h K) H locs ls hC hMM hwo hS hl)
    · exact lv_tableIn (off := 754) (tgt := 794) c1 c2 dL_law_40 (by decide) (by decide) (by decide) (by decide) ((lc_15 Cj hX hbl rfl rfl rfl rfl (by omega) hi6 hj1 h K) H locs ls hC hMM hwo hS hl)
    · exact lv_tableIn (off := 779) (tgt := 819) c1 c2 dL_law_40 (by decide) (by decide) (by decide) (by decide) ((lc_16 Cj hX hbl rfl rfl rfl rfl (by omega) hi6 hj1 h K) H locs ls hC hMM hwo hS hl)
    · exact lv_tableIn (off := 792) (tgt := 832) c1 c2 dL_law_40 (by decide) (by decide) (by decide) (by decide) ((lc_17 Cj hX hbl rfl rfl rfl rfl (by omega) hi6 hj1 h K) H locs ls hC hMM hwo hS hl)
    · exact lv_tableIn (off := 829) (tgt := 869) c1 c2 dL_law_40 (by decide) (by decide) (by decide) (by decide) ((lc_18 Cj hX hbl rfl rfl rfl rfl (by omega) hi6 hj1 h K) H locs ls hC hMM hwo hS hl)
    · exact lv_tableIn (off := 878) (tgt := 918) c1 c2 dL_law_40 (by decide) (by decide) (by decide) (by decide) ((lc_19 Cj hX hbl rfl rfl rfl rfl (by omega) hi6 hj1 h K) H locs ls hC hMM hwo hS hl)
    · exact lv_tableIn (off := 915) (tgt := 955) c1 c2 dL_law_40 (by decide) (by decide) (by decide) (by decide) ((lc_20 Cj hX hbl rfl rfl rfl rfl (by omega) hi6 hj1 h K) H locs ls hC hMM hwo hS hl)
    · exact lv_tableIn (off := 952) (tgt := 992) c1 c2 dL_law_40 (by decide) (by decide) (by decide) (by decide) ((lc_21 Cj hX hbl rfl rfl rfl rfl (by omega) hi6 hj1 h K) H locs ls hC hMM hwo hS hl)
    · exact lv_tableIn (off := 977) (tgt := 1017) c1 c2 dL_law_40 (by decide) (by decide) (by decide) (by decide) ((lc_22 Cj hX hbl rfl rfl rfl rfl (by omega) hi6 hj1 h K) H locs ls hC hMM hwo hS hl)
    · exact lv_tableIn (off := 1026) (tgt := 1066) c1 c2 dL_law_40 (by decide) (by decide) (by decide) (by decide) ((lc_23 Cj hX hbl rfl rfl rfl rfl (by omega) hi6 hj1 h K) H locs ls hC hMM hwo hS hl)
    · exact lv_tableIn (off := 1075) (tgt := 1115) c1 c2 dL_law_40 (by decide) (by decide) (by decide) (by decide) ((lc_24 Cj hX hbl rfl rfl rfl rfl (by omega) hi6 hj1 h K) H locs ls hC hMM hwo hS hl)
    · exact lv_tableIn (off := 1100) (tgt := 1140) c1 c2 dL_law_40 (by decide) (by decide) (by decide) (by decide) ((lc_25 Cj hX hbl rfl rfl rfl rfl (by omega) hi6 hj1 h K) H locs ls hC hMM hwo hS hl)
    · exact lv_tableIn (off := 1113) (tgt := 1153) c1 c2 dL_law_40 (by decide) (by decide) (by decide) (by decide) ((lc_26 Cj hX hbl rfl rfl rfl rfl (by omega) hi6 hj1 h K) H locs ls hC hMM hwo hS hl)
    · exact lv_tableIn (off := 1126) (tgt := 1166) c1 c2 dL_law_40 (by decide) (by decide) (by decide) (by decide) ((lc_27 Cj hX hbl rfl rfl rfl rfl (by omega) hi6 hj1 h K) H locs ls hC hMM hwo hS hl)
    · exact lv_tableIn (off := 1151) (tgt := 1191) c1 c2 dL_law_40 (by decide) (by decide) (by decide) (by decide) ((lc_28 Cj hX hbl rfl rfl rfl rfl (by omega) hi6 hj1 h K) H locs ls hC hMM hwo hS hl)
    · exact lv_tableIn (off := 1176) (tgt := 1216) c1 c2 dL_law_40 (by decide) (by decide) (by decide) (by decide) ((lc_29 Cj hX hbl rfl rfl rfl rfl (by omega) hi6 hj1 h K) H locs ls hC hMM hwo hS hl)
    · exact lv_tableIn (off := 1263) (tgt := 1303) c1 c2 dL_law_40 (by decide) (by decide) (by decide) (by decide) ((lc_30 Cj hX hbl rfl rfl rfl rfl (by omega) hi6 hj1 h K) H locs ls hC hMM hwo hS hl)
    · exact lv_tableIn (off := 1324) (tgt := 1364) c1 c2 dL_law_40 (by decide) (by decide) (by decide) (by decide) ((lc_31 Cj hX hbl rfl rfl rfl rfl (by omega) hi6 hj1 h K) H locs ls hC hMM hwo hS hl)
    · exact lv_tableIn (off := 1349) (tgt := 1389) c1 c2 dL_law_40 (by decide) (by decide) (by decide) (by decide) ((lc_32 Cj hX hbl rfl rfl rfl rfl (by omega) hi6 hj1 h K) H locs ls hC hMM hwo hS hl)
    · exact lv_tableIn (off := 1426) (tgt := 1466) c1 c2 dL_law_40 (by decide) (by decide) (by decide) (by decide) ((lc_33 Cj hX hbl rfl rfl rfl rfl (by omega) hi6 hj1 h K) H locs ls hC hMM hwo hS hl)
    · exact lv_tableIn (off := 1463) (tgt := 1503) c1 c2 dL_law_40 (by decide) (by decide) (by decide) (by decide) ((lc_34 Cj hX hbl rfl rfl rfl rfl (by omega) hi6 hj1 h K) H locs ls hC hMM hwo hS hl)
    · exact lv_tableIn (off := 1488) (tgt := 1528) c1 c2 dL_law_40 (by decide) (by decide) (by decide) (by decide) ((lc_35 Cj hX hbl rfl rfl rfl rfl (by omega) hi6 hj1 h K) H locs ls hC hMM hwo hS hl)
    · exact lv_tableIn (off := 1513) (tgt := 1553) c1 c2 dL_law_40 (by decide) (by decide) (by decide) (by decide) ((lc_36 Cj hX hbl rfl rfl rfl rfl (by omega) hi6 hj1 h K) H locs ls hC hMM hwo hS hl)
    · exact lv_tableIn (off := 1550) (tgt := 1590) c1 c2 dL_law_40 (by decide) (by decide) (by decide) (by decide) ((lc_37 Cj hX hbl rfl rfl rfl rfl (by omega) hi6 hj1 h K) H locs ls hC hMM hwo hS hl)
    · exact lv_tableIn (off := 1599) (tgt := 1639) c1 c2 dL_law_40 (by decide) (by decide) (by decide) (by decide) ((lc_38 Cj hX hbl rfl rfl rfl rfl (by omega) hi6 hj1 h K) H locs ls hC hMM hwo hS hl)
    · exact lv_tableIn (off := 1652) (tgt := 1692) c1 c2 dL_law_40 (by decide) (by decide) (by decide) (by decide) ((lc_39 Cj hX hbl rfl rfl rfl rfl (by omega) hi6 hj1 h K) H locs ls hC hMM hwo hS hl)
    · exact lv_tableIn (off := 1665) (tgt := 1705) c1 c2 dL_law_40 (by decide) (by decide) (by decide) (by decide) ((lc_40 Cj hX hbl rfl rfl rfl rfl (by omega) hi6 hj1 h K) H locs ls hC hMM hwo hS hl)
    · exact lv_tableIn (off := 1702) (tgt := 1742) c1 c2 dL_law_40 (by decide) (by decide) (by decide) (by decide) ((lc_41 Cj hX hbl rfl rfl rfl rfl (by omega) hi6 hj1 h K) H locs ls hC hMM hwo hS hl)
    · exact lv_tableIn (off := 1727) (tgt := 1767) c1 c2 dL_law_40 (by decide) (by decide) (by decide) (by decide) ((lc_42 Cj hX hbl rfl rfl rfl rfl (by omega) hi6 hj1 h K) H locs ls hC hMM hwo hS hl)
    · exact lv_tableIn (off := 1740) (tgt := 1780) c1 c2 dL_law_40 (by decide) (by decide) (by decide) (by decide) ((lc_43 Cj hX hbl rfl rfl rfl rfl (by omega) hi6 hj1 h K) H locs ls hC hMM hwo hS hl)
    · exact lv_tableIn (off := 1753) (tgt := 1793) c1 c2 dL_law_40 (by decide) (by decide) (by decide) (by decide) ((lc_44 Cj hX hbl rfl rfl rfl rfl (by omega) hi6 hj1 h K) H locs ls hC hMM hwo hS hl)
