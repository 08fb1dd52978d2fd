/-! ===== the case house of the law's switch ===== -/
def lvi (G G' : ax_G) (b ob i : Nat) : List (Nat × Value) := [(4, .int (nI i)), (0, .ref b), (1, .ref (G.1 0)), (2, .ref (G'.1 0)), (3, .ref ob)]
def lvj (G G' : ax_G) (b ob i : Nat) (k : Int32) : List (Nat × Value) := [(4, .int (nI i)), (0, .ref b), (1, .ref (G.1 0)), (2, .ref (G'.1 0)), (3, .ref ob), (5, .int k)]
def lvk (G G' : ax_G) (b ob i : Nat) (k v : Int32) : List (Nat × Value) := [(4, .int (nI i)), (0, .ref b), (1, .ref (G.1 0)), (2, .ref (G'.1 0)), (3, .ref ob), (5, .int k), (6, .int v)]
section LH
variable {dC : Nat → ClassId} {dI : Nat → Nat → Nat} {G G' : ax_G} {cells slots : Nat} {p : Program} {l : Launch} {e : Env} {R : Room} {s : State} {m : MethodId} {args : Array Value} {below : List Frame} {meth : Method} {c : Code} {Z : State → Prop} {b L ob : Nat} {cJ : ClassId} {xs : Nat → Int32} {f : Nat → Int64} {i j : Nat} {σ τ : ax_S}
set_option maxHeartbeats 4000000 in
/-- behind the law's house -/
theorem lh_tail (C : ∀ f, bL RL cL_law 7 dC dI G G' (wof ob cJ f) cells slots p R s m args c) (hKJ : va_K (dC, dI) vwCl [(cJ, .long)] s) (hX : va_X b L xs s s.heap) (hbl : b < s.heap.size) (hL : L < 100000) (hi6 : i + 6 < L) {k v : Int32}
    (hm : ax_Ct shM 60 mX12_house [ax_r 0, ax_i (xs (i + 1)), ax_i (xs (i + 2))] (fun r u => r = some (ax_i v) ∧ u = ax_ui τ 0 0 k) τ) (hk : k = 0 → f 0 = v.toInt64)
    (kk : bW RL cL_law 7 dC dI G G' (wof ob cJ f) cells slots p l e R s m args below meth c Z 1818 (lvi G G' b ob i) [] σ (ax_ui τ 0 0 k)) :
    bW RL cL_law 7 dC dI G G' (wof ob cJ f) cells slots p l e R s m args below meth c Z 401 (lvi G G' b ob i) [.int k] σ τ := by
  have c1 := (C f).1.1
  have c2 := (C f).1.2.1
  intro H locs ls hC hMM hwo hS hl
  refine lv_istore (lv' := (5, .int k) :: lvi G G' b ob i) c1 c2 dL_law_401 hl (by decide) rfl (fun ls hl => ?_)
  have hl : lv_has ls 7 (lvj G G' b ob i k) := lv_sub hl [1, 2, 3, 4, 5, 0] rfl
  suffices h : bW RL cL_law 7 dC dI G G' (wof ob cJ f) cells slots p l e R s m args below meth c Z 403 (lvj G G' b ob i k) [] σ τ from h H locs ls hC hMM hwo hS hl
  refine bW_aload (place := 3) (C f) dL_law_403 rfl rfl ?_
  refine bW_pushes (C f) hX hbl rfl rfl hL [1, 2] 404 _ (fun q hq => by simp only [List.mem_cons, List.not_mem_nil, or_false] at hq; omega) ⟨⟨dL_law_404, dL_law_405, dL_law_407, dL_law_408, dL_law_409⟩, ⟨dL_law_410, dL_law_411, dL_law_413, dL_law_414, dL_law_415⟩, trivial⟩ ?_
  refine bW_M (As := [ax_i (xs (i + 1)), ax_i (xs (i + 2))]) (rest := []) (C f) dL_law_416 lk_L_43 shM_0 rfl rfl rfl (Nat.zero_le _) hm (fun r u hq => ?_)
  obtain ⟨hq1, hq2⟩ := hq
  subst hq1
  subst hq2
  intro H locs ls hC hMM hwo hS hl
  refine lv_istore (lv' := (6, .int v) :: lvj G G' b ob i k) c1 c2 dL_law_419 hl (by decide) rfl (fun ls hl => ?_)
  have hl : lv_has ls 7 (lvk G G' b ob i k v) := lv_sub hl [1, 2, 3, 4, 5, 6, 0] rfl
  suffices h : bW RL cL_law 7 dC dI G G' (wof ob cJ f) cells slots p l e R s m args below meth c Z 421 (lvk G G' b ob i k v) [] σ (ax_ui τ 0 0 k) from h H locs ls hC hMM hwo hS hl
  refine bW_aload (place := 3) (C f) dL_law_421 rfl rfl ?_
  refine bW_M (As := []) (rest := []) (C f) dL_law_422 lk_L_44 shM_0 rfl rfl rfl (Nat.zero_le _) (f_X12_thrown (ax_ui τ 0 0 k) (d := 60) (by omega)) (fun r u hq => ?_)
  obtain ⟨hq1, hq2⟩ := hq
  subst hq1
  subst hq2
  have ek : (ax_ui τ 0 0 k).1 0 0 = k := by simp [ax_ui]
  rw [ek]
  intro H locs ls hC hMM hwo hS hl
  have fin : W p l e R s m args below meth c H locs cells slots Z (F0 m 449 ls []) := by
    refine lv_goto (tgt := 1818) c1 c2 dL_law_449 (by decide) ?_
    exact kk H locs ls hC hMM hwo hS (lv_sub hl [0, 1, 2, 3, 4] rfl)
  refine lv_iload c1 c2 dL_law_425 (lv_at hl 5 rfl) ?_
  refine lv_icmp_eq (tgt := 432) c1 c2 dL_law_427 (by decide) (fun _ => ?_) (fun z => absurd rfl z)
  refine lv_iload c1 c2 dL_law_432 (lv_at hl 5 rfl) ?_
  refine lv_if_ne (tgt := 449) c1 c2 dL_law_434 (by decide) (fun _ => fin) (fun z => ?_)
  refine lv_aload_n c1 c2 dL_law_437 rfl (lv_at hl 4 rfl) ?_
  refine lv_iconst (v := 0) c1 c2 dL_law_438 (by decide) ?_
  refine va_lald (ws := wof ob cJ f) c1 c2 hKJ hwo 0 0 rfl rfl vp_in01 dL_law_439 ?_
  refine lv_iload c1 c2 dL_law_440 (lv_at hl 6 rfl) ?_
  refine lv_i2l (v := v.toInt64) c1 c2 dL_law_442 rfl ?_
  refine W.lcmp c1 c2 dL_law_443 ?_
  refine lv_if_eq (tgt := 449) c1 c2 dL_law_444 (by decide) (fun _ => fin) (fun y => absurd ((lg_cmp_eq _ _).mpr (hk z)) y)
set_option maxHeartbeats 4000000 in
theorem lc_4 {sa sb : Nat} (hst : l.stackTraces = false) (C : ∀ f, bL RL cL_law 7 dC dI G G' (wof ob cJ f) cells slots p R s m args c) (hfr : 63 ≤ R.frames ∧ 4096 ≤ R.locals) (hcl : cells + 1 ≤ R.cells ∧ slots + 6 ≤ R.slots) (hKJ : va_K (dC, dI) vwCl [(cJ, .long)] s) (hX0 : hsX (fun q => s.heap.size ≤ q) sa sb s s.heap) (hob : s.heap.size ≤ ob)
    (hX : va_X b L xs s s.heap) (hbl : b < s.heap.size) (hL : L < 100000) (hi6 : i + 6 < L) (h : RR j σ τ)
    (kk : ∀ f u w, RR (j + 1) u w → bW RL cL_law 7 dC dI G G' (wof ob cJ f) (cells + 1) (slots + 6) p l e R s m args below meth c Z 1818 (lvi G G' b ob i) [] u w) :
    bW RL cL_law 7 dC dI G G' (wof ob cJ f) cells slots p l e R s m args below meth c Z 384 (lvi G G' b ob i) [] σ τ := by
  have C' : ∀ f, bL RL cL_law 7 dC dI G G' (wof ob cJ f) (cells + 1) (slots + 6) p R s m args c := fun f => ⟨(C f).1, (C f).2.1, (C f).2.2.1, (C f).2.2.2.1, (C f).2.2.2.2.1, hcl⟩
  refine bW_aload (place := 2) (C f) dL_law_384 rfl rfl ?_
  refine bW_pushes (C f) hX hbl rfl rfl hL [1, 2] 385 _ (fun q hq => by simp only [List.mem_cons, List.not_mem_nil, or_false] at hq; omega) ⟨⟨dL_law_385, dL_law_386, dL_law_388, dL_law_389, dL_law_390⟩, ⟨dL_law_391, dL_law_392, dL_law_394, dL_law_395, dL_law_396⟩, trivial⟩ ?_
  obtain ⟨⟨c1, c2, c3, c4, c5⟩, ⟨k1, k2, k3, k4⟩, ⟨a1, a2, a3, a4⟩, r1, r2, r3⟩ := C f
  intro H locs ls hC hMM hwo hS hl
  refine lv_aload_n c1 c2 dL_law_397 rfl (lv_at hl 4 rfl) ?_
  have hob4 := a4 0 _ (rfl : (wof ob cJ f)[0]? = some (ob, .inl (cJ, 1, .inr (.inl f))))
  have hAA : ∀ q, ax_A shC G H.size q → s.heap.size ≤ q := fun q z => by
    rcases z with ⟨x, hx, rfl⟩ | z
    · exact a1 x hx
    · exact Nat.le_trans hS.1 z
  by_cases g : hsB σ (xs (i + 1)) (xs (i + 2))
  · obtain ⟨v, g1, g2⟩ := house_ok h g
    have hAO : ∀ q, hoA G H.size ob q → s.heap.size ≤ q := fun q z => by
      rcases z with z | rfl
      · exact hAA q z
      · exact hob
    refine va_calli (vx_runSW (As := [.ref (G.1 0), .int (xs (i + 1)), .int (xs (i + 2)), .ref ob]) (rest := []) ⟨c1, c2, c3, c4, c5⟩ (hL_ok l dC dI G H.size σ (xs (i + 1)) (xs (i + 2)) ob cJ f v g1) (hl_cw c5 ⟨hfr.1, Nat.le_trans (Nat.le_of_ble_eq_true rfl) hfr.2⟩) ⟨hoP_blind, fun U hU hW => ⟨rfl, by rw [hU], by rw [hU]; exact hC, by rw [hU]; exact ax_K.to (sh := shC) k1 hW (fun a h1 h2 => hS.2.1 a h1 h2) hAO, k3, by rw [hU]; exact hwo, hKJ.moved hW.alike, hob4.1⟩⟩ rfl rfl hl.1 rfl (lv_room (Nat.zero_le _)) dL_law_398 hcl) hS (fun q _ z => hAO q z) (fun q z => hAO q z) (fun r u t H1 locs1 ht hal hpost hB hz hk hS1 => ?_)
    subst hpost
    rw [ht] at hB
    obtain ⟨hC1, hO1⟩ := hB
    have hM1 : va_P (dC, dI) vwCl (ax_w shM G' τ) H1 := hMM.kept (fun k q hq => hk q.1 (vx_lt hMM hq) (fun z => by
      obtain ⟨h1, h2⟩ := ax_w_of hq
      have hlt := vx_lt hMM hq
      rcases z with (⟨x, hx, e9⟩ | z) | z
      · exact a3 x k hx h1 (by rw [← e9, h2])
      · omega
      · exact hob4.2 k h1 (by rw [← h2, z])))
    exact lh_tail C' hKJ hX hbl hL hi6 g2 (fun _ => by simp [vp_updL]) (kk _ _ _ (house_RR h 0)) H1 locs1 ls hC1 hM1 hO1 hS1 hl
  · have g2 := house_bad h g
    refine va_calli (vx_runSW (As := [.ref (G.1 0), .int (xs (i + 1)), .int (xs (i + 2)), .ref ob]) (rest := []) ⟨c1, c2, c3, c4, c5⟩ (hL_bad l hst dC dI G H.size σ (xs (i + 1)) (xs (i + 2)) sa sb ob g) (hl_cw c5 ⟨hfr.1, Nat.le_trans (Nat.le_of_ble_eq_true rfl) hfr.2⟩) ⟨hsP_blind, fun U hU hW => ⟨rfl, by rw [hU], by rw [hU]; exact hC, by rw [hU]; exact ax_K.to (sh := shC) k1 hW (fun a h1 h2 => hS.2.1 a h1 h2) hAA, k3, by rw [hU]; exact hsX.to hX0 hW (fun a h1 h2 => hS.2.1 a h1 h2) hAA⟩⟩ rfl rfl hl.1 rfl (lv_room (Nat.zero_le _)) dL_law_398 hcl) hS (fun q _ z => hAA q z) (fun q z => hAA q z) (fun r u t H1 locs1 ht hal hpost hB hz hk hS1 => ?_)
    subst hpost
    rw [ht] at hB
    exact lh_tail C' hKJ hX hbl hL hi6 g2 (fun z => absurd z (by decide)) (kk _ _ _ (house_RR h 1)) H1 locs1 ls hB (bx_stay hMM a3 hk) (bx_wo hwo (fun k q h => (a4 k q h).1) hk) hS1 hl
end LH
