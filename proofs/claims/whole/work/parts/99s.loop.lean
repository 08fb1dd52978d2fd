/-! ===== the law's loop (open: the case house is a hypothesis) ===== -/
def lvi (G G' : ax_G) (b ob i : Nat) : List (Nat × Value) := [(4, .int (nI i)), (0, .ref b), (1, .ref (G.1 0)), (2, .ref (G'.1 0)), (3, .ref ob)]
theorem lt7 {L i : Nat} (hL : L < 100000) (hi : i < 100000) : (nI L - (7 : Int32) < nI i) ↔ L < i + 7 := by
  by_cases h : 7 ≤ L
  · rw [show nI L - (7 : Int32) = nI (L - 7) from n_sub L 7]
    refine (n_lt _ _).trans ?_
    omega
  · have h1 : nI L - (7 : Int32) < 0 := (by decide +kernel : ∀ L, L < 7 → nI L - (7 : Int32) < 0) L (by omega)
    have h2 := n_nn i
    refine ⟨fun _ => by omega, fun _ => ?_⟩
    rw [Int32.lt_iff_toInt_lt] at h1 h2 ⊢
    omega
theorem law_loop_open {dC : Nat → ClassId} {dI : Nat → Nat → Nat} {G G' : ax_G} {wo : va_W} {cells slots : Nat} {p : Program} {l : Launch} {e : Env} {R : Room} {s : State} {m : MethodId} {args : Array Value} {below : List Frame} {meth : Method} {c : Code} {Z : State → Prop} {b L ob : Nat} {xs : Nat → Int32} (C : bL RL cL_law 7 dC dI G G' wo cells slots p R s m args c) (hX : va_X b L xs s s.heap) (hbl : b < s.heap.size) (hL : L ≤ 3584)
    (hh : ∀ i j σ τ, i + 6 < L → j ≤ 1000 → RR j σ τ → (∀ u w, RR (j + 1) u w → bW RL cL_law 7 dC dI G G' wo cells slots p l e R s m args below meth c Z 1818 (lvi G G' b ob i) [] u w) → bW RL cL_law 7 dC dI G G' wo cells slots p l e R s m args below meth c Z 384 (lvi G G' b ob i) [] σ τ)
    (kend : ∀ i σ τ, bW RL cL_law 7 dC dI G G' wo cells slots p l e R s m args below meth c Z 1824 (lvi G G' b ob i) [] σ τ) : ∀ (f i j : Nat) (σ τ : ax_S), L ≤ i + f → 7 * j ≤ i → i ≤ L + 7 → RR j σ τ → bW RL cL_law 7 dC dI G G' wo cells slots p l e R s m args below meth c Z 23 (lvi G G' b ob i) [] σ τ := by
  have c1 := C.1.1
  have c2 := C.1.2.1
  intro f
  induction f with
  | zero =>
    intro i j σ τ hf hj hi h H locs ls hC hMM hwo hS hl
    refine lv_iload c1 c2 dL_law_23 (lv_at hl 0 rfl) ?_
    refine lv_aload_n c1 c2 dL_law_25 rfl (lv_at hl 1 rfl) ?_
    refine va_slen c1 c2 hX hbl (Nat.not_le.mpr hbl) hS dL_law_26 ?_
    refine lv_bipush (v := 7) c1 c2 dL_law_27 (by decide) ?_
    refine lv_isub c1 c2 dL_law_29 ?_
    refine lv_icmp_gt (tgt := 1824) c1 c2 dL_law_30 (by decide) (fun _ => kend i σ τ H locs ls hC hMM hwo hS hl) (fun z => absurd ((lt7 (by omega) (by omega)).mpr (by omega)) z)
  | succ f ih =>
    intro i j σ τ hf hj hi h
    have nxt : ∀ j' u w, 7 * j' ≤ i + 7 → i + 6 < L → RR j' u w → bW RL cL_law 7 dC dI G G' wo cells slots p l e R s m args below meth c Z 1818 (lvi G G' b ob i) [] u w := by
      intro j' u w hj' hi6 h' H locs ls hC hMM hwo hS hl
      refine lv_iinc (k := 0) (lv' := lvi G G' b ob (i + 7)) c1 c2 dL_law_1818 hl rfl (by exact n_add i 7) (by decide) rfl (fun ls' hl' => ?_)
      refine lv_goto (tgt := 23) c1 c2 dL_law_1821 (by decide) ?_
      exact ih (i + 7) j' u w (by omega) hj' (by omega) h' H locs ls' hC hMM hwo hS hl'
    intro H locs ls hC hMM hwo hS hl
    refine lv_iload c1 c2 dL_law_23 (lv_at hl 0 rfl) ?_
    refine lv_aload_n c1 c2 dL_law_25 rfl (lv_at hl 1 rfl) ?_
    refine va_slen c1 c2 hX hbl (Nat.not_le.mpr hbl) hS dL_law_26 ?_
    refine lv_bipush (v := 7) c1 c2 dL_law_27 (by decide) ?_
    refine lv_isub c1 c2 dL_law_29 ?_
    refine lv_icmp_gt (tgt := 1824) c1 c2 dL_law_30 (by decide) (fun _ => kend i σ τ H locs ls hC hMM hwo hS hl) (fun z => ?_)
    have hi6 : i + 6 < L := by
      have : ¬ L < i + 7 := fun q => z ((lt7 (by omega) (by omega)).mpr q)
      omega
    have hj1 : j ≤ 1000 := by omega
    have K : ∀ u w, RR (j + 1) u w → bW RL cL_law 7 dC dI G G' wo cells slots p l e R s m args below meth c Z 1818 (lvi G G' b ob i) [] u w := fun u w q => nxt (j + 1) u w (by omega) hi6 q
    refine lv_aload_n c1 c2 dL_law_33 rfl (lv_at hl 1 rfl) ?_
    refine lv_iload c1 c2 dL_law_34 (lv_at hl 0 rfl) ?_
    refine va_sld c1 c2 hX hbl (Nat.not_le.mpr hbl) hS (n_in i L) dL_law_36 ?_
    refine lv_bipush (v := 63) c1 c2 dL_law_37 (by decide) ?_
    refine lv_iand c1 c2 dL_law_39 ?_
    generalize xs (Int32.toNatClampNeg (nI i)) &&& (63 : Int32) = x
    by_cases g : ¬ x < nI 0 ∧ ¬ nI 44 < x
    case neg =>
      refine lv_tableOut (tgt := 1818) c1 c2 dL_law_40 ?_ (by decide) (nxt j σ τ (by omega) hi6 h H locs ls hC hMM hwo hS hl)
      by_cases g1 : x < nI 0
      · left; exact (Int32.lt_iff_toInt_lt).mp g1
      · right
        have g2 : nI 44 < x := Classical.not_not.mp (fun q => g ⟨g1, q⟩)
        exact (Int32.lt_iff_toInt_lt).mp g2
    case pos =>
    obtain ⟨k, -, hk, rfl⟩ := (in_R x 0 44).mp g
    obtain rfl | rfl | rfl | rfl | rfl | rfl | rfl | rfl | rfl | rfl | rfl | rfl | rfl | rfl | rfl | rfl | rfl | rfl | rfl | rfl | rfl | rfl | rfl | rfl | rfl | rfl | rfl | rfl | rfl | rfl | rfl | rfl | rfl | rfl | rfl | rfl | rfl | rfl | rfl | rfl | rfl | rfl | rfl | rfl | rfl : k = 0 ∨ k = 1 ∨ k = 2 ∨ k = 3 ∨ k = 4 ∨ k = 5 ∨ k = 6 ∨ k = 7 ∨ k = 8 ∨ k = 9 ∨ k = 10 ∨ k = 11 ∨ k = 12 ∨ k = 13 ∨ k = 14 ∨ k = 15 ∨ k = 16 ∨ k = 17 ∨ k = 18 ∨ k = 19 ∨ k = 20 ∨ k = 21 ∨ k = 22 ∨ k = 23 ∨ k = 24 ∨ k = 25 ∨ k = 26 ∨ k = 27 ∨ k = 28 ∨ k = 29 ∨ k = 30 ∨ k = 31 ∨ k = 32 ∨ k = 33 ∨ k = 34 ∨ k = 35 ∨ k = 36 ∨ k = 37 ∨ k = 38 ∨ k = 39 ∨ k = 40 ∨ k = 41 ∨ k = 42 ∨ k = 43 ∨ k = 44 := by omega
    · exact lv_tableIn (off := 196) (tgt := 236) c1 c2 dL_law_40 (by decide) (by decide) (by decide) (by decide) ((lc_0 C hX hbl rfl rfl rfl rfl (by omega) hi6 hj1 h K) H locs ls hC hMM hwo hS hl)
    · exact lv_tableIn (off := 269) (tgt := 309) c1 c2 dL_law_40 (by decide) (by decide) (by decide) (by decide) ((lc_1 C hX hbl rfl rfl rfl rfl (by omega) hi6 hj1 h K) H locs ls hC hMM hwo hS hl)
    · exact lv_tableIn (off := 294) (tgt := 334) c1 c2 dL_law_40 (by decide) (by decide) (by decide) (by decide) ((lc_2 C hX hbl rfl rfl rfl rfl (by omega) hi6 hj1 h K) H locs ls hC hMM hwo hS hl)
    · exact lv_tableIn (off := 319) (tgt := 359) c1 c2 dL_law_40 (by decide) (by decide) (by decide) (by decide) ((lc_3 C hX hbl rfl rfl rfl rfl (by omega) hi6 hj1 h K) H locs ls hC hMM hwo hS hl)
    · exact lv_tableIn (off := 344) (tgt := 384) c1 c2 dL_law_40 (by decide) (by decide) (by decide) (by decide) ((hh i j σ τ hi6 hj1 h K) H locs ls hC hMM hwo hS hl)
    · exact lv_tableIn (off := 412) (tgt := 452) c1 c2 dL_law_40 (by decide) (by decide) (by decide) (by decide) ((lc_5 C hX hbl rfl rfl rfl rfl (by omega) hi6 hj1 h K) H locs ls hC hMM hwo hS hl)
    · exact lv_tableIn (off := 449) (tgt := 489) c1 c2 dL_law_40 (by decide) (by decide) (by decide) (by decide) ((lc_6 C hX hbl rfl rfl rfl rfl (by omega) hi6 hj1 h K) H locs ls hC hMM hwo hS hl)
    · exact lv_tableIn (off := 474) (tgt := 514) c1 c2 dL_law_40 (by decide) (by decide) (by decide) (by decide) ((lc_7 C hX hbl rfl rfl rfl rfl (by omega) hi6 hj1 h K) H locs ls hC hMM hwo hS hl)
    · exact lv_tableIn (off := 511) (tgt := 551) c1 c2 dL_law_40 (by decide) (by decide) (by decide) (by decide) ((lc_8 C hX hbl rfl rfl rfl rfl (by omega) hi6 hj1 h K) H locs ls hC hMM hwo hS hl)
    · exact lv_tableIn (off := 548) (tgt := 588) c1 c2 dL_law_40 (by decide) (by decide) (by decide) (by decide) ((lc_9 C hX hbl rfl rfl rfl rfl (by omega) hi6 hj1 h K) H locs ls hC hMM hwo hS hl)
    · exact lv_tableIn (off := 573) (tgt := 613) c1 c2 dL_law_40 (by decide) (by decide) (by decide) (by decide) ((lc_10 C hX hbl rfl rfl rfl rfl (by omega) hi6 hj1 h K) H locs ls hC hMM hwo hS hl)
    · exact lv_tableIn (off := 598) (tgt := 638) c1 c2 dL_law_40 (by decide) (by decide) (by decide) (by decide) ((lc_11 C hX hbl rfl rfl rfl rfl (by omega) hi6 hj1 h K) H locs ls hC hMM hwo hS hl)
    · exact lv_tableIn (off := 623) (tgt := 663) c1 c2 dL_law_40 (by decide) (by decide) (by decide) (by decide) ((lc_12 C hX hbl rfl rfl rfl rfl (by omega) hi6 hj1 h K) H locs ls hC hMM hwo hS hl)
    · exact lv_tableIn (off := 648) (tgt := 688) c1 c2 dL_law_40 (by decide) (by decide) (by decide) (by decide) ((lc_13 C hX hbl rfl rfl rfl rfl (by omega) hi6 hj1 h K) H locs ls hC hMM hwo hS hl)
    · exact lv_tableIn (off := 685) (tgt := 725) c1 c2 dL_law_40 (by decide) (by decide) (by decide) (by decide) ((lc_14 C hX hbl rfl rfl rfl rfl (by omega) hi6 hj1 h K) H locs ls hC hMM hwo hS hl)
    · exact lv_tableIn (off := 754) (tgt := 794) c1 c2 dL_law_40 (by decide) (by decide) (by decide) (by decide) ((lc_15 C hX hbl rfl rfl rfl rfl (by omega) hi6 hj1 h K) H locs ls hC hMM hwo hS hl)
    · exact lv_tableIn (off := 779) (tgt := 819) c1 c2 dL_law_40 (by decide) (by decide) (by decide) (by decide) ((lc_16 C hX hbl rfl rfl rfl rfl (by omega) hi6 hj1 h K) H locs ls hC hMM hwo hS hl)
    · exact lv_tableIn (off := 792) (tgt := 832) c1 c2 dL_law_40 (by decide) (by decide) (by decide) (by decide) ((lc_17 C hX hbl rfl rfl rfl rfl (by omega) hi6 hj1 h K) H locs ls hC hMM hwo hS hl)
    · exact lv_tableIn (off := 829) (tgt := 869) c1 c2 dL_law_40 (by decide) (by decide) (by decide) (by decide) ((lc_18 C hX hbl rfl rfl rfl rfl (by omega) hi6 hj1 h K) H locs ls hC hMM hwo hS hl)
    · exact lv_tableIn (off := 878) (tgt := 918) c1 c2 dL_law_40 (by decide) (by decide) (by decide) (by decide) ((lc_19 C hX hbl rfl rfl rfl rfl (by omega) hi6 hj1 h K) H locs ls hC hMM hwo hS hl)
    · exact lv_tableIn (off := 915) (tgt := 955) c1 c2 dL_law_40 (by decide) (by decide) (by decide) (by decide) ((lc_20 C hX hbl rfl rfl rfl rfl (by omega) hi6 hj1 h K) H locs ls hC hMM hwo hS hl)
    · exact lv_tableIn (off := 952) (tgt := 992) c1 c2 dL_law_40 (by decide) (by decide) (by decide) (by decide) ((lc_21 C hX hbl rfl rfl rfl rfl (by omega) hi6 hj1 h K) H locs ls hC hMM hwo hS hl)
    · exact lv_tableIn (off := 977) (tgt := 1017) c1 c2 dL_law_40 (by decide) (by decide) (by decide) (by decide) ((lc_22 C hX hbl rfl rfl rfl rfl (by omega) hi6 hj1 h K) H locs ls hC hMM hwo hS hl)
    · exact lv_tableIn (off := 1026) (tgt := 1066) c1 c2 dL_law_40 (by decide) (by decide) (by decide) (by decide) ((lc_23 C hX hbl rfl rfl rfl rfl (by omega) hi6 hj1 h K) H locs ls hC hMM hwo hS hl)
    · exact lv_tableIn (off := 1075) (tgt := 1115) c1 c2 dL_law_40 (by decide) (by decide) (by decide) (by decide) ((lc_24 C hX hbl rfl rfl rfl rfl (by omega) hi6 hj1 h K) H locs ls hC hMM hwo hS hl)
    · exact lv_tableIn (off := 1100) (tgt := 1140) c1 c2 dL_law_40 (by decide) (by decide) (by decide) (by decide) ((lc_25 C hX hbl rfl rfl rfl rfl (by omega) hi6 hj1 h K) H locs ls hC hMM hwo hS hl)
    · exact lv_tableIn (off := 1113) (tgt := 1153) c1 c2 dL_law_40 (by decide) (by decide) (by decide) (by decide) ((lc_26 C hX hbl rfl rfl rfl rfl (by omega) hi6 hj1 h K) H locs ls hC hMM hwo hS hl)
    · exact lv_tableIn (off := 1126) (tgt := 1166) c1 c2 dL_law_40 (by decide) (by decide) (by decide) (by decide) ((lc_27 C hX hbl rfl rfl rfl rfl (by omega) hi6 hj1 h K) H locs ls hC hMM hwo hS hl)
    · exact lv_tableIn (off := 1151) (tgt := 1191) c1 c2 dL_law_40 (by decide) (by decide) (by decide) (by decide) ((lc_28 C hX hbl rfl rfl rfl rfl (by omega) hi6 hj1 h K) H locs ls hC hMM hwo hS hl)
    · exact lv_tableIn (off := 1176) (tgt := 1216) c1 c2 dL_law_40 (by decide) (by decide) (by decide) (by decide) ((lc_29 C hX hbl rfl rfl rfl rfl (by omega) hi6 hj1 h K) H locs ls hC hMM hwo hS hl)
    · exact lv_tableIn (off := 1263) (tgt := 1303) c1 c2 dL_law_40 (by decide) (by decide) (by decide) (by decide) ((lc_30 C hX hbl rfl rfl rfl rfl (by omega) hi6 hj1 h K) H locs ls hC hMM hwo hS hl)
    · exact lv_tableIn (off := 1324) (tgt := 1364) c1 c2 dL_law_40 (by decide) (by decide) (by decide) (by decide) ((lc_31 C hX hbl rfl rfl rfl rfl (by omega) hi6 hj1 h K) H locs ls hC hMM hwo hS hl)
    · exact lv_tableIn (off := 1349) (tgt := 1389) c1 c2 dL_law_40 (by decide) (by decide) (by decide) (by decide) ((lc_32 C hX hbl rfl rfl rfl rfl (by omega) hi6 hj1 h K) H locs ls hC hMM hwo hS hl)
    · exact lv_tableIn (off := 1426) (tgt := 1466) c1 c2 dL_law_40 (by decide) (by decide) (by decide) (by decide) ((lc_33 C hX hbl rfl rfl rfl rfl (by omega) hi6 hj1 h K) H locs ls hC hMM hwo hS hl)
    · exact lv_tableIn (off := 1463) (tgt := 1503) c1 c2 dL_law_40 (by decide) (by decide) (by decide) (by decide) ((lc_34 C hX hbl rfl rfl rfl rfl (by omega) hi6 hj1 h K) H locs ls hC hMM hwo hS hl)
    · exact lv_tableIn (off := 1488) (tgt := 1528) c1 c2 dL_law_40 (by decide) (by decide) (by decide) (by decide) ((lc_35 C hX hbl rfl rfl rfl rfl (by omega) hi6 hj1 h K) H locs ls hC hMM hwo hS hl)
    · exact lv_tableIn (off := 1513) (tgt := 1553) c1 c2 dL_law_40 (by decide) (by decide) (by decide) (by decide) ((lc_36 C hX hbl rfl rfl rfl rfl (by omega) hi6 hj1 h K) H locs ls hC hMM hwo hS hl)
    · exact lv_tableIn (off := 1550) (tgt := 1590) c1 c2 dL_law_40 (by decide) (by decide) (by decide) (by decide) ((lc_37 C hX hbl rfl rfl rfl rfl (by omega) hi6 hj1 h K) H locs ls hC hMM hwo hS hl)
    · exact lv_tableIn (off := 1599) (tgt := 1639) c1 c2 dL_law_40 (by decide) (by decide) (by decide) (by decide) ((lc_38 C hX hbl rfl rfl rfl rfl (by omega) hi6 hj1 h K) H locs ls hC hMM hwo hS hl)
    · exact lv_tableIn (off := 1652) (tgt := 1692) c1 c2 dL_law_40 (by decide) (by decide) (by decide) (by decide) ((lc_39 C hX hbl rfl rfl rfl rfl (by omega) hi6 hj1 h K) H locs ls hC hMM hwo hS hl)
    · exact lv_tableIn (off := 1665) (tgt := 1705) c1 c2 dL_law_40 (by decide) (by decide) (by decide) (by decide) ((lc_40 C hX hbl rfl rfl rfl rfl (by omega) hi6 hj1 h K) H locs ls hC hMM hwo hS hl)
    · exact lv_tableIn (off := 1702) (tgt := 1742) c1 c2 dL_law_40 (by decide) (by decide) (by decide) (by decide) ((lc_41 C hX hbl rfl rfl rfl rfl (by omega) hi6 hj1 h K) H locs ls hC hMM hwo hS hl)
    · exact lv_tableIn (off := 1727) (tgt := 1767) c1 c2 dL_law_40 (by decide) (by decide) (by decide) (by decide) ((lc_42 C hX hbl rfl rfl rfl rfl (by omega) hi6 hj1 h K) H locs ls hC hMM hwo hS hl)
    · exact lv_tableIn (off := 1740) (tgt := 1780) c1 c2 dL_law_40 (by decide) (by decide) (by decide) (by decide) ((lc_43 C hX hbl rfl rfl rfl rfl (by omega) hi6 hj1 h K) H locs ls hC hMM hwo hS hl)
    · exact lv_tableIn (off := 1753) (tgt := 1793) c1 c2 dL_law_40 (by decide) (by decide) (by decide) (by decide) ((lc_44 C hX hbl rfl rfl rfl rfl (by omega) hi6 hj1 h K) H locs ls hC hMM hwo hS hl)
