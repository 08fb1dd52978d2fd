/-! ===== wires cut for a while; PARTING ===== -/
def scK (c i : Nat) : Prop := scM c i ∨ c = 15
def KS (τ : ax_S) (D' : Nat → Nat) (w : ax_S) : Prop := fo scK w τ ∧ mD w D'
theorem RR.sets {j : Nat} {σ τ : ax_S} (h : RR j σ τ) : ∃ (n : Nat) (E D : Nat → Nat) (dry lw ho : Nat) (L : Nat → List (List (Nat × Nat) × List (Nat × Nat))) (nc : Nat) (no : Nat → Nat),
    bk_ok n E D dry ∧ lg_ok D ∧ lwok lw ho L ∧ nt_ok n nc no ∧ bk_C σ n E D dry ∧ bk_M τ n E D dry ∧ lwC σ lw ho L ∧ lwM τ lw ho L ∧ nt_C σ nc no ∧ nt_M τ nc no ∧ ∀ u w, fo scC u σ → KS τ D w → RR (j + 1) u w := by
  obtain ⟨tl, tp, n, E, D, dry, lw, ho, L, st, ki, rf, nc, no, tc, te, a, T, H, im, I, ⟨o1, o2, o3, o4, o5, o6, o7, o8, o9, o10, o11⟩, ⟨c1, c2, c3, c4, c5, c6, c7, c8, c9⟩, ⟨m1, m2, m3, m4, m5, m6, m7, m8⟩⟩ := h
  refine ⟨n, E, D, dry, lw, ho, L, nc, no, o2, o3, o4, o7, c2, m2, c4, m3, c6, m5, ?_⟩
  rintro u w hu ⟨hw, hD⟩
  refine ⟨tl, tp, n, E, D, dry, lw, ho, L, st, ki, rf, nc, no, tc, te, a, T, H, im, I, ⟨o1, o2, o3, o4, o5, o6, o7, o8, o9, o10, by omega⟩, CR_scC hu ⟨c1, c2, c3, c4, c5, c6, c7, c8, c9⟩, ⟨m1.to hw.1 ?_, ⟨?_, ?_, hD, fun h k hh hk => ?_⟩, m3.to hw.1 ?_, m4.to hw.1 ?_, m5.to hw.1 ?_, m6.to hw.1 ?_, m7.to hw.1 ?_, m8.to hw.1 ?_⟩⟩
  any_goals (intro c i hs; unfold scK scM scm at hs; omega)
  · rw [hw.1 0 23 (by unfold scK scM scm; omega)]; exact m2.1
  · rw [hw.1 0 24 (by unfold scK scM scm; omega)]; exact m2.2.1
  · rw [hw.1 14 _ (by unfold scK scM scm; omega)]; exact m2.2.2.2 h k hh hk
theorem scm_scK (c i : Nat) (h : scm c i) : scK c i := Or.inl (Or.inl h)
theorem KS.st {τ u w : ax_S} {D' : Nat → Nat} (h : KS τ D' u) (hf : fo scm w u) : KS τ D' w := ⟨(hf.mono scm_scK).trans h.1, h.2.to hf scm15⟩
theorem KS.h23 {τ w : ax_S} {D' : Nat → Nat} {n : Nat} (h : KS τ D' w) (h23 : τ.1 0 23 = nI n) : w.1 0 23 = nI n := by
  rw [h.1.1 0 23 (by unfold scK scM scm; omega)]; exact h23
theorem KS.K {τ w : ax_S} {n : Nat} {E D D' : Nat → Nat} {dry lw ho : Nat} {L : Nat → List (List (Nat × Nat) × List (Nat × Nat))} (h : KS τ D' w) (hb : bk_ok n E D dry) (hlw : lwok lw ho L) (hlM : lwM τ lw ho L) (hM : bk_M τ n E D dry) (hD : ∀ h, h < n → D' h = D h) : mk_K w n (kpf E D dry ho L) := by
  have h8 := hb.2.2.2.2.2.2.2.1
  have hf := h.1
  have hH : hsM w n E D' dry := ⟨by rw [hf.1 0 24 (by unfold scK scM scm; omega)]; exact hM.2.1, hb.2.2.1, h.2, fun h hh => ⟨by rw [hf.1 14 _ (by unfold scK scM scm; omega)]; exact hM.2.2.2 h 1 hh (by omega), by rw [hf.1 14 _ (by unfold scK scM scm; omega)]; exact hM.2.2.2 h 3 hh (by omega), (h8 h hh).2.2.1, by rw [hD h hh]; exact (h8 h hh).2.2.2.2.2.1, (h8 h hh).2.2.2.1⟩⟩
  exact (mkK_of hlw hH (hlM.to hf.1 (fun c i hs => by unfold scK scM scm at hs; omega)) hb.2.1).cong (fun h p c hh => (kpf_cong (hD h hh)).symm)
/-- the class's belt behind changes of what holds nothing -/
theorem sc_C {σ u : ax_S} {n : Nat} {E D : Nat → Nat} {dry : Nat} (hC : bk_C σ n E D dry) (hf : fo scC u σ) : bk_C u n E D dry := hC.to hf.1 (fun c i hs => by unfold scC scr at hs; omega)
theorem sc_K {σ u : ax_S} {n : Nat} {E D : Nat → Nat} {dry lw ho : Nat} {L : Nat → List (List (Nat × Nat) × List (Nat × Nat))} (hb : bk_ok n E D dry) (hC : bk_C σ n E D dry) (hlw : lwok lw ho L) (hlC : lwC σ lw ho L) (hf : fo scC u σ) : sk_K u n (kpf E D dry ho L) :=
  skK_of hlw (st_H hb (sc_C hC hf)) (hlC.to hf.1 (fun c i hs => by unfold scC scr at hs; omega)) hb.2.1
theorem scW_scC (c i : Nat) (h : scW c i) : scC c i := by unfold scW at h; unfold scC; omega
theorem set_sub {D : Nat → Nat} {s i : Nat} (hs : s < 2 ^ D 84) (ht : s.testBit i = true) : i < D 84 := by
  refine Nat.not_le.mp (fun z => ?_)
  have h2 : 2 ^ D 84 ≤ 2 ^ i := Nat.pow_le_pow_right (by omega) z
  rw [Nat.testBit_lt_two_pow (show s < 2 ^ i by omega)] at ht; cases ht
theorem cuD_cong {D : Nat → Nat} {p q : Nat → Bool} (h : ∀ w, p w = q w) (j : Nat) : cuD D p j = cuD D q j := by
  have : p = q := funext h
  rw [this]
theorem cuD_set {D : Nat → Nat} {p q : Nat → Bool} {k x : Nat} (hk : k ≤ 16) (h : ∀ w, w ≠ k → q w = p w) (hx : x = if q k then 1 else bk_w D k 3) (j : Nat) : cuD D q j = dset (cuD D p) (16 + 4 * k + 3) x j := by
  unfold dset
  by_cases e : j = 16 + 4 * k + 3
  · rw [if_pos e, e, hx]; exact cuD_3 D q (by omega)
  · rw [if_neg e]
    unfold cuD
    by_cases z : 16 ≤ j ∧ j < 84 ∧ (j - 16) % 4 = 3
    · have : (j - 16) / 4 ≠ k := by omega
      rw [h _ this]
    · rw [if_neg (fun y => z ⟨y.1, y.2.1, y.2.2.1⟩), if_neg (fun y => z ⟨y.1, y.2.1, y.2.2.1⟩)]
theorem ct_X12_cut1 {d : Nat} (hd : 2 ≤ d) {τ u : ax_S} {D : Nat → Nat} (h84 : D 84 ≤ 16) (hu : KS τ D u) {s : Nat} (hs : s < 2 ^ D 84) :
    ax_Ct shM d mX12_cutSet [ax_r 0, ax_i (nI s), ax_i 1] (fun r w => r = none ∧ KS τ (cuD D s.testBit) w ∧ fo (fun c _ => c = 15) w u) u := by
  obtain ⟨d, rfl⟩ : ∃ e, d = e + 1 := ⟨d - 1, by omega⟩
  refine ax_Ct.of (lv := [some (ax_r 0), some (ax_i (nI s)), some (ax_i 1), none]) (by decide +kernel) (fun ad => Nat.le_of_ble_eq_true rfl) (fun ad => rfl) ?_
  refine s_X12_cutSet_0 (by omega) u _ _ ?_
  have loop := lp_up (m := D 84) (P := fun k => ∀ v, KS τ (cuD D (fun w => decide (w < k) && s.testBit w)) v → fo (fun c _ => c = 15) v u → ax_W shM (d + 1) mX12_cutSet (fun r w => r = none ∧ KS τ (cuD D s.testBit) w ∧ fo (fun c _ => c = 15) w u) 2 [some (ax_r 0), some (ax_i (nI s)), some (ax_i 1), some (ax_i (nI k))] [] v) ?_ ?_
  · refine loop 0 (by omega) u ⟨hu.1, hu.2.cong (fun j hj => ?_)⟩ fo.rfl'
    exact if_neg (fun z => by simp at z)
  · intro v hv hf
    have e84 : v.1 15 84 = nI (D 84) := by rw [hv.2 84 (by omega), cuD_out (by omega)]
    have g : v.1 15 84 ≤ nI (D 84) := by rw [e84]; exact (n_le _ _).mpr (Nat.le_refl _)
    refine s_X12_cutSet_2 (by omega) v _ _ _ (fun _ => ⟨rfl, ⟨hv.1, hv.2.cong (fun j hj => ?_)⟩, hf⟩) (fun c => absurd g c) (fun c => absurd g c) (fun c => absurd g c)
    refine cuD_cong (fun w => ?_) j
    cases q : s.testBit w
    · rw [Bool.and_false]
    · rw [decide_eq_true (set_sub hs q)]; rfl
  · intro k hk ih v hv hf
    have e84 : v.1 15 84 = nI (D 84) := by rw [hv.2 84 (by omega), cuD_out (by omega)]
    have g : ¬ v.1 15 84 ≤ nI k := by rw [e84]; exact fun z => absurd ((n_le _ _).mp z) (by omega)
    have hbit := pn_bitOf1 (nI s) k (by omega)
    rw [bt_nI, decide_eq_true (show k < 32 by omega), Bool.true_and] at hbit
    have i3 : (16 : Int32) + 4 * nI k + 3 = nI (16 + 4 * k + 3) := n_w k 3
    refine s_X12_cutSet_2 (by omega) v _ _ _ (fun c => absurd c g) (fun _ c => ?_) (fun _ _ => by rw [i3]; exact n_in _ _) (fun _ c => ?_)
    · have z : s.testBit k = false := by cases q : s.testBit k
                                         · rfl
                                         · exact absurd (hbit.mpr q) (Classical.not_not.mp c)
      rw [nI_1]
      refine ih v ⟨hv.1, hv.2.cong (fun j hj => ?_)⟩ hf
      refine cuD_cong (fun w => ?_) j
      by_cases q : w = k
      · rw [q, z, Bool.and_false, Bool.and_false]
      · have : (w < k + 1) ↔ (w < k) := by omega
        simp only [this]
    · have z : s.testBit k = true := hbit.mp (Classical.not_not.mp c)
      rw [nI_1, i3, n_tn _]
      refine ih _ ⟨hv.1.ui (Or.inr rfl), (hv.2.set (16 + 4 * k + 3) 1).cong (fun j hj => ?_)⟩ (hf.ui rfl)
      refine cuD_set (by omega) (fun w hw => ?_) ?_ j
      · have : (w < k + 1) ↔ (w < k) := by omega
        simp only [this]
      · rw [z, decide_eq_true (Nat.lt_succ_self k)]; rfl
theorem ct_X12_cut0 {d : Nat} (hd : 2 ≤ d) {τ u : ax_S} {D : Nat → Nat} (h84 : D 84 ≤ 16) {s : Nat} (hu : KS τ (cuD D s.testBit) u) (h0 : ∀ i, i < D 84 → s.testBit i = true → bk_w D i 3 = 0) (hs : s < 2 ^ D 84) :
    ax_Ct shM d mX12_cutSet [ax_r 0, ax_i (nI s), ax_i 0] (fun r w => r = none ∧ KS τ D w ∧ fo (fun c _ => c = 15) w u) u := by
  obtain ⟨d, rfl⟩ : ∃ e, d = e + 1 := ⟨d - 1, by omega⟩
  refine ax_Ct.of (lv := [some (ax_r 0), some (ax_i (nI s)), some (ax_i 0), none]) (by decide +kernel) (fun ad => Nat.le_of_ble_eq_true rfl) (fun ad => rfl) ?_
  refine s_X12_cutSet_0 (by omega) u _ _ ?_
  have loop := lp_up (m := D 84) (P := fun k => ∀ v, KS τ (cuD D (fun w => !decide (w < k) && s.testBit w)) v → fo (fun c _ => c = 15) v u → ax_W shM (d + 1) mX12_cutSet (fun r w => r = none ∧ KS τ D w ∧ fo (fun c _ => c = 15) w u) 2 [some (ax_r 0), some (ax_i (nI s)), some (ax_i 0), some (ax_i (nI k))] [] v) ?_ ?_
  · refine loop 0 (by omega) u ⟨hu.1, hu.2.cong (fun j hj => ?_)⟩ fo.rfl'
    unfold cuD
    simp
  · intro v hv hf
    have e84 : v.1 15 84 = nI (D 84) := by rw [hv.2 84 (by omega), cuD_out (by omega)]
    have g : v.1 15 84 ≤ nI (D 84) := by rw [e84]; exact (n_le _ _).mpr (Nat.le_refl _)
    refine s_X12_cutSet_2 (by omega) v _ _ _ (fun _ => ⟨rfl, ⟨hv.1, hv.2.cong (fun j hj => ?_)⟩, hf⟩) (fun c => absurd g c) (fun c => absurd g c) (fun c => absurd g c)
    symm
    unfold cuD
    rw [if_neg]
    rintro ⟨q1, q2, q3, q4⟩
    rw [Bool.and_eq_true, Bool.not_eq_true'] at q4
    have := set_sub hs q4.2
    exact absurd this (of_decide_eq_false q4.1)
  · intro k hk ih v hv hf
    have e84 : v.1 15 84 = nI (D 84) := by rw [hv.2 84 (by omega), cuD_out (by omega)]
    have g : ¬ v.1 15 84 ≤ nI k := by rw [e84]; exact fun z => absurd ((n_le _ _).mp z) (by omega)
    have hbit := pn_bitOf1 (nI s) k (by omega)
    rw [bt_nI, decide_eq_true (show k < 32 by omega), Bool.true_and] at hbit
    have i3 : (16 : Int32) + 4 * nI k + 3 = nI (16 + 4 * k + 3) := n_w k 3
    refine s_X12_cutSet_2 (by omega) v _ _ _ (fun c => absurd c g) (fun _ c => ?_) (fun _ _ => by rw [i3]; exact n_in _ _) (fun _ c => ?_)
    · have z : s.testBit k = false := by cases q : s.testBit k
                                         · rfl
                                         · exact absurd (hbit.mpr q) (Classical.not_not.mp c)
      rw [nI_1]
      refine ih v ⟨hv.1, hv.2.cong (fun j hj => ?_)⟩ hf
      refine cuD_cong (fun w => ?_) j
      by_cases q : w = k
      · rw [q, z, Bool.and_false, Bool.and_false]
      · have : (w < k + 1) ↔ (w < k) := by omega
        simp only [this]
    · have z : s.testBit k = true := hbit.mp (Classical.not_not.mp c)
      have z0 := h0 k hk z
      rw [nI_1, i3, n_tn _]
      refine ih _ ⟨hv.1.ui (Or.inr rfl), (hv.2.set (16 + 4 * k + 3) 0).cong (fun j hj => ?_)⟩ (hf.ui rfl)
      refine cuD_set (by omega) (fun w hw => ?_) ?_ j
      · have : (w < k + 1) ↔ (w < k) := by omega
        simp only [this]
      · rw [decide_eq_true (Nat.lt_succ_self k)]; exact z0.symm
def ucP (D : Nat → Nat) (w : Nat) : Bool := decide (w < D 84) && decide (bk_w D w 3 = 0)
theorem uncut_bt {σ : ax_S} {n : Nat} {E D : Nat → Nat} {dry : Nat} (hb : bk_ok n E D dry) (hC : bk_C σ n E D dry) (i : Nat) (hi : i < 32) : bt ((((1 : Int32) <<< ((σ.1 5 10) &&& 31)) - (1 : Int32)) &&& ((σ.1 5 11) ^^^ (-1 : Int32))) i = ucP D i := by
  have h84 := hb.2.2.2.1
  rw [hC.2.1, b_and, pn_not _ i hi, pn_full (D 84) (by omega) i hi, hC.2.2.2.2.2.2.2.1 i hi]
  unfold ucP
  by_cases z : i < D 84
  · have hc := (hb.2.2.2.2.2.2.2.2 i z).2.2.2.2
    obtain e | e : bk_w D i 3 = 0 ∨ bk_w D i 3 = 1 := by omega
    · rw [e]; simp [z]
    · rw [e]; simp [z]
  · simp [z]
theorem ct_X12_uncut {d : Nat} (hd : 2 ≤ d) {τ : ax_S} {n : Nat} {E D : Nat → Nat} {dry : Nat} (hb : bk_ok n E D dry) (hm : mD τ D) :
    ax_Ct shM d mX12_uncut [ax_r 0] (fun r u => r = some (ax_i (pn_set (D 84) (fun w => decide (bk_w D w 3 = 0)))) ∧ u = τ) τ := by
  obtain ⟨d, rfl⟩ : ∃ e, d = e + 1 := ⟨d - 1, by omega⟩
  have h84 := hb.2.2.2.1
  have e84 : τ.1 15 84 = nI (D 84) := hm 84 (by omega)
  refine ax_Ct.of (lv := [some (ax_r 0), none, none]) (by decide +kernel) (fun ad => Nat.le_of_ble_eq_true rfl) (fun ad => rfl) ?_
  refine s_X12_uncut_0 (by omega) τ ?_
  have loop := lp_up (m := D 84) (P := fun k => ax_W shM (d + 1) mX12_uncut (fun r u => r = some (ax_i (pn_set (D 84) (fun w => decide (bk_w D w 3 = 0)))) ∧ u = τ) 4 [some (ax_r 0), some (ax_i (pn_set k (fun w => decide (bk_w D w 3 = 0)))), some (ax_i (nI k))] [] τ) ?_ ?_
  · exact loop 0 (by omega)
  · have g : τ.1 15 84 ≤ nI (D 84) := by rw [e84]; exact (n_le _ _).mpr (Nat.le_refl _)
    exact s_X12_uncut_4 (by omega) τ _ _ (fun _ => ⟨rfl, rfl⟩) (fun c => absurd g c) (fun c => absurd g c)
  · intro k hk ih
    have g : ¬ τ.1 15 84 ≤ nI k := by rw [e84]; exact fun z => absurd ((n_le _ _).mp z) (by omega)
    have i3 : (16 : Int32) + 4 * nI k + 3 = nI (16 + 4 * k + 3) := n_w k 3
    have w3 : τ.1 15 (16 + 4 * k + 3) = nI (bk_w D k 3) := hm _ (by omega)
    have hc := (hb.2.2.2.2.2.2.2.2 k hk).2.2.2.2
    refine s_X12_uncut_4 (by omega) τ _ _ (fun c => absurd c g) (fun _ => by rw [i3]; exact n_in _ _) (fun _ => ?_)
    rw [i3, n_tn _, w3, nI_1]
    have e : (pn_set k (fun w => decide (bk_w D w 3 = 0)) ||| (if (¬ nI (bk_w D k 3) = 0) then (0 : Int32) else ((1 : Int32) <<< (nI k &&& 31)))) = pn_set (k + 1) (fun w => decide (bk_w D w 3 = 0)) := by
      have q := n_eq (bk_w D k 3) 0
      by_cases z : bk_w D k 3 = 0
      · rw [if_neg (show ¬ ¬ nI (bk_w D k 3) = (0 : Int32) from not_not_intro (q.mpr z)), pn_set_up (p := fun w => decide (bk_w D w 3 = 0)) (decide_eq_true z)]
      · rw [if_pos (show ¬ nI (bk_w D k 3) = (0 : Int32) from fun y => z (q.mp y)), pn_set_no (p := fun w => decide (bk_w D w 3 = 0)) (decide_eq_false z), or_z]
    rw [e]; exact ih
/-- which sets the reference takes -/
theorem sub_set {m s : Nat} {p : Nat → Bool} (hm : m ≤ 16) (hs : s < 2 ^ m) : (nI s &&& (pn_set m p ^^^ (-1))) = 0 ↔ gsub p s 17 = true := by
  have hb : ∀ i, i < 32 → bt (nI s &&& (pn_set m p ^^^ (-1))) i = (s.testBit i && !(decide (i < m) && p i)) := fun i hi => by
    rw [b_and, bt_nI, pn_not _ i hi, pn_set_bt p m (by omega) i hi, decide_eq_true hi, Bool.true_and]
  have hlt : ∀ i, s.testBit i = true → i < m := fun i ht => by
    refine Nat.not_le.mp (fun z => ?_)
    have h2 : 2 ^ m ≤ 2 ^ i := Nat.pow_le_pow_right (by omega) z
    rw [Nat.testBit_lt_two_pow (show s < 2 ^ i by omega)] at ht; cases ht
  rw [gsub_iff]
  constructor
  · intro e i hi ht
    have := hb i (by omega)
    rw [e, b_0, ht, decide_eq_true (hlt i ht)] at this
    cases q : p i
    · rw [q] at this; cases this
    · rfl
  · intro h
    refine b_ext fun i hi => ?_
    rw [hb i hi, b_0]
    cases ht : s.testBit i
    · rfl
    · have := hlt i ht
      rw [decide_eq_true this, h i (by omega) ht]; rfl
theorem pow_b {m : Nat} (hm : m ≤ 16) : 2 ^ m ≤ 65536 := Nat.le_trans (Nat.pow_le_pow_right (by omega) hm) (by decide)
theorem n_pow {m : Nat} (hm : m ≤ 16) : (1 : Int32) <<< (nI m &&& 31) = nI (2 ^ m) := pn_sh m (by omega)
theorem range_s (s n : Nat) (q : Nat → Bool) : (List.range' s (n + 1)).filter q = if q s then s :: (List.range' (s + 1) n).filter q else (List.range' (s + 1) n).filter q := by
  rw [List.range'_succ, List.filter_cons]
