/-! ===== WHO, SURE: sets of wires that could have been cut ===== -/
def soF (q : Nat → Bool) : Nat → Nat → Bool
  | 0, _ => true
  | f + 1, i => q i && soF q f (i + 1)
def soq (n : Nat) (D : Nat → Nat) (kp : Nat → Nat → Nat → Nat) (no : Nat → Nat) (s j : Nat) : Bool := decide (bt (dk_bu n (cuD D s.testBit) kp (no (4 * j)) (no (4 * j + 1))) (no (4 * j + 2)) = decide (no (4 * j + 3) = 1))
def sok (n : Nat) (D : Nat → Nat) (kp : Nat → Nat → Nat → Nat) (nc : Nat) (no : Nat → Nat) (s : Nat) : Bool := soF (soq n D kp no s) nc 0
theorem so_C {x : Int32} {k b : Nat} (hk : k < 32) (hb : b ≤ 1) : ((x >>> (nI k &&& 31)) &&& (1 : Int32) = nI b) ↔ bt x k = decide (b = 1) := by
  rw [pn_bitOf x k hk]
  obtain rfl | rfl : b = 0 ∨ b = 1 := by omega
  · cases bt x k <;> decide
  · cases bt x k <;> decide
theorem so_M {x : Int32} {k b : Nat} (hk : k < 32) (hb : b ≤ 1) : (if (¬ (¬ (if (¬ (¬ ((x >>> (nI k &&& 31)) &&& (1 : Int32)) = (1 : Int32))) then (1 : Int32) else 0) = nI b)) then (1 : Int32) else 0) = if decide (bt x k = decide (b = 1)) then 1 else 0 := by
  rw [pn_bitOf x k hk]
  obtain rfl | rfl : b = 0 ∨ b = 1 := by omega
  · cases bt x k <;> decide
  · cases bt x k <;> decide
theorem ct_X11_allSo {d : Nat} (hd : 12 ≤ d) {σ u : ax_S} {n : Nat} {E D : Nat → Nat} {dry lw ho : Nat} {L : Nat → List (List (Nat × Nat) × List (Nat × Nat))} {nc : Nat} {no : Nat → Nat} (hb : bk_ok n E D dry) (hC : bk_C σ n E D dry) (hlw : lwok lw ho L) (hlC : lwC σ lw ho L) (hnt : nt_ok n nc no) (hnC : nt_C σ nc no) (hu : fo scC u σ) (s : Nat) :
    ax_Ct shC d mX11_allSo [ax_r 0, ax_i (pn_set (D 84) (bk_lv D) &&& (nI s ^^^ (-1)))] (fun r w => r = some (ax_i (if sok n D (kpf E D dry ho L) nc no s then 1 else 0)) ∧ fo scr w u) u := by
  obtain ⟨d, rfl⟩ : ∃ e, d = e + 1 := ⟨d - 1, by omega⟩
  have hn := hb.2.1
  have h84 := hb.2.2.2.1
  have hkp := kpf_le E D dry ho L
  refine ax_Ct.of (lv := [some (ax_r 0), some (ax_i (pn_set (D 84) (bk_lv D) &&& (nI s ^^^ (-1)))), none, none]) (by decide +kernel) (fun ad => Nat.le_of_ble_eq_true rfl) (fun ad => rfl) ?_
  refine s_X11_allSo_0 (by omega) u _ ?_
  have loop : ∀ f i t, i + f = nc → fo scr t u → ax_W shC (d + 1) mX11_allSo (fun r w => r = some (ax_i (if soF (soq n D (kpf E D dry ho L) no s) f i then 1 else 0)) ∧ fo scr w u) 2 [some (ax_r 0), some (ax_i (pn_set (D 84) (bk_lv D) &&& (nI s ^^^ (-1)))), some (ax_i (nI i)), none] [] t := by
    intro f
    induction f with
    | zero =>
      intro i t hi ht
      have ft : fo scC t σ := (ht.mono scr_scC).trans hu
      have e94 : t.1 9 4 = nI nc := by rw [ft.1 9 4 (by unfold scC scr; omega)]; exact hnC.1
      have g : t.1 9 4 ≤ nI i := by rw [e94]; exact (n_le nc i (by have := hnt.1; omega) (by have := hnt.1; omega)).mpr (by omega)
      exact s_X11_allSo_2 (by omega) t _ _ (fun _ => ⟨rfl, ht⟩) (fun c => absurd g c) (fun c => absurd g c)
    | succ f ih =>
      intro i t hi ht
      have hnc := hnt.1
      have ft : fo scC t σ := (ht.mono scr_scC).trans hu
      have e94 : t.1 9 4 = nI nc := by rw [ft.1 9 4 (by unfold scC scr; omega)]; exact hnC.1
      have g : ¬ t.1 9 4 ≤ nI i := by rw [e94]; exact fun z => absurd ((n_le nc i).mp z) (by omega)
      obtain ⟨b1, b2, b3, b4, b5⟩ := hnt.2 i (by omega)
      obtain ⟨c1, c2, c3, c4⟩ := hnC.2 i (by omega)
      have e39 : t.1 39 (Int32.toNatClampNeg (nI i)) = nI (no (4 * i)) := by rw [n_tn i, ft.1 39 _ (by unfold scC scr; omega)]; exact c1
      have e40 : t.1 40 (Int32.toNatClampNeg (nI i)) = nI (no (4 * i + 1)) := by rw [n_tn i, ft.1 40 _ (by unfold scC scr; omega)]; exact c2
      refine s_X11_allSo_2 (by omega) t _ _ (fun c => absurd c g) (fun _ => n_in _ _) (fun _ => ?_)
      rw [e39, e40]
      refine (fl_C (by omega) (cu_ok hb _ hkp) (cu_sk hb (sc_C hC ft) _ (cutn_bt h84 s)) (sc_K hb hC hlw hlC ft) fo.rfl' b1 b2 b3).mono ?_
      rintro r w ⟨rfl, w1, -, -⟩
      have fw : fo scC w σ := (w1.mono scr_scC).trans ft
      have e41 : w.1 41 (Int32.toNatClampNeg (nI i)) = nI (no (4 * i + 2)) := by rw [n_tn i, fw.1 41 _ (by unfold scC scr; omega)]; exact c3
      have e42 : w.1 42 (Int32.toNatClampNeg (nI i)) = nI (no (4 * i + 3)) := by rw [n_tn i, fw.1 42 _ (by unfold scC scr; omega)]; exact c4
      have key := so_C (x := dk_bu n (cuD D s.testBit) (kpf E D dry ho L) (no (4 * i)) (no (4 * i + 1))) (k := no (4 * i + 2)) (b := no (4 * i + 3)) (by omega) b5
      refine ⟨_, rfl, s_X11_allSo_39 (by omega) w _ _ _ (n_in _ _) (fun c => ?_) (fun c => ?_)⟩
      · rw [e41, e42] at c
        have c' : soq n D (kpf E D dry ho L) no s i = true := decide_eq_true (key.mp c)
        rw [soF, c', Bool.true_and, nI_1]
        exact ih (i + 1) w (by omega) (w1.trans ht)
      · rw [e41, e42] at c
        have c' : soq n D (kpf E D dry ho L) no s i = false := decide_eq_false (fun z => c (key.mpr z))
        rw [soF, c', Bool.false_and]
        exact ⟨rfl, w1.trans ht⟩
  exact loop nc 0 u (by omega) fo.rfl'
theorem dk_lv_out {D : Nat → Nat} (i : Nat) (h : D 84 ≤ i) : dk_lv D i = false := by unfold dk_lv; rw [decide_eq_false (by omega)]; rfl
def soL (n : Nat) (D : Nat → Nat) (kp : Nat → Nat → Nat → Nat) (nc : Nat) (no : Nat → Nat) (k : Nat) : List Nat := (gs (dk_lv D) k 16).filter (sok n D kp nc no)
theorem soL_l {n : Nat} {D : Nat → Nat} {kp : Nat → Nat → Nat → Nat} {nc : Nat} {no : Nat → Nat} {k : Nat} (hk : k ≤ 2) : (soL n D kp nc no k).length ≤ 120 :=
  Nat.le_trans (List.length_filter_le _ _) (gs_l hk (by omega))
theorem ct_X11_gatherFitting {d : Nat} (hd : 13 ≤ d) {σ : ax_S} {n : Nat} {E D : Nat → Nat} {dry lw ho : Nat} {L : Nat → List (List (Nat × Nat) × List (Nat × Nat))} {nc : Nat} {no : Nat → Nat} (hb : bk_ok n E D dry) (hC : bk_C σ n E D dry) (hlw : lwok lw ho L) (hlC : lwC σ lw ho L) (hnt : nt_ok n nc no) (hnC : nt_C σ nc no) {k : Nat} (hk : k ≤ 2) :
    ax_Ct shC d mX11_gatherFitting [ax_r 0, ax_i (nI k)] (fun r u => r = none ∧ fo scC u σ ∧ hl u (soL n D (kpf E D dry ho L) nc no k)) σ := by
  obtain ⟨d, rfl⟩ : ∃ e, d = e + 1 := ⟨d - 1, by omega⟩
  have h84 := hb.2.2.2.1
  refine ax_Ct.of (lv := [some (ax_r 0), some (ax_i (nI k)), none, none, none]) (by decide +kernel) (fun ad => Nat.le_of_ble_eq_true rfl) (fun ad => rfl) ?_
  refine s_X11_gatherFitting_0 (by omega) σ _ ?_
  refine (ct_live (by omega) hb hC).mono ?_
  rintro r u ⟨rfl, rfl⟩
  refine ⟨_, rfl, s_X11_gatherFitting_7 (by omega) u _ _ ?_⟩
  refine (ct_X10_gather (by omega) (fun i hi => lv_bt (by omega) i (by omega)) hk).mono ?_
  rintro r v ⟨rfl, v1, v2⟩
  refine ⟨rfl, s_X11_gatherFitting_17 (by omega) v _ ?_⟩
  have hlen := gs_l (p := dk_lv D) hk (show 16 ≤ 16 by omega)
  unfold soL
  generalize hgl : gs (dk_lv D) k 16 = l at *
  generalize hok : sok n D (kpf E D dry ho L) nc no = ok
  have loop := lp_up (m := l.length) (P := fun i => ∀ t, fo scC t u → t.1 11 1 = nI l.length → (∀ q s, ((l.take i).filter ok)[q]? = some s → t.1 44 q = nI s) → (∀ q s, i ≤ q → l[q]? = some s → t.1 44 q = nI s) → ax_W shC (d + 1) mX11_gatherFitting (fun r w => r = none ∧ fo scC w u ∧ hl w (l.filter ok)) 22 [some (ax_r 0), none, some (ax_i (pn_set (D 84) (bk_lv D))), some (ax_i (nI ((l.take i).filter ok).length)), some (ax_i (nI i))] [] t) ?_ ?_
  · refine loop 0 (by omega) v (v1.mono scW_scC) v2.1 (fun q s h => ?_) (fun q s _ h => v2.2 q s h)
    rw [List.take_zero, List.filter_nil, List.getElem?_nil] at h; cases h
  · intro t ht h11 h1 h2
    have g : t.1 11 1 ≤ nI l.length := by rw [h11]; exact (n_le _ _).mpr (Nat.le_refl _)
    refine s_X11_gatherFitting_22 (by omega) t _ _ _ (fun _ => ⟨rfl, ht.ui (by unfold scC; omega), ?_⟩) (fun c => absurd g c) (fun c => absurd g c)
    rw [List.take_length] at h1 ⊢
    exact ⟨ui_same _ _ _ _, fun q s h => by rw [ui_cell (by omega)]; exact h1 q s h⟩
  · intro i hi ih t ht h11 h1 h2
    have g : ¬ t.1 11 1 ≤ nI i := by rw [h11]; exact fun z => absurd ((n_le _ _).mp z) (by omega)
    have e44 : t.1 44 (Int32.toNatClampNeg (nI i)) = nI l[i] := by rw [n_tn i]; exact h2 i _ (Nat.le_refl _) (List.getElem?_eq_getElem hi)
    have etk : (l.take (i + 1)).filter ok = (l.take i).filter ok ++ (if ok l[i] then [l[i]] else []) := by
      rw [List.take_succ, List.getElem?_eq_getElem hi, Option.toList_some, List.filter_append, List.filter_cons]; rfl
    have hfl : ((l.take i).filter ok).length ≤ i := Nat.le_trans (List.length_filter_le _ _) (by rw [List.length_take]; omega)
    refine s_X11_gatherFitting_22 (by omega) t _ _ _ (fun c => absurd c g) (fun _ => n_in _ _) (fun _ => ?_)
    rw [e44]
    refine (ct_X11_allSo (by omega) hb hC hlw hlC hnt hnC ht l[i]).mono ?_
    rw [hok]
    rintro r w ⟨rfl, w1⟩
    have fw : fo scC w u := (w1.mono scr_scC).trans ht
    have w11 : w.1 11 1 = nI l.length := by rw [w1.1 11 1 (by unfold scr; omega)]; exact h11
    have w44 : ∀ q, w.1 44 q = t.1 44 q := fun q => w1.1 44 q (by unfold scr; omega)
    cases hq : ok l[i]
    · refine ⟨_, rfl, s_X11_gatherFitting_52 (by omega) w _ _ _ _ (fun _ => ?_) (fun c => absurd rfl c) (fun c => absurd rfl c) (fun c => absurd rfl c)⟩
      have := ih w fw w11 (fun q s h => by rw [w44]; rw [etk, hq, if_neg (by decide), List.append_nil] at h; exact h1 q s h) (fun q s h hs => by rw [w44]; exact h2 q s (by omega) hs)
      rw [etk, hq, if_neg (by decide), List.append_nil] at this
      rw [nI_1]; exact this
    · refine ⟨_, rfl, s_X11_gatherFitting_52 (by omega) w _ _ _ _ (fun c => absurd c (by decide)) (fun _ => n_in _ _) (fun _ => n_in _ _) (fun _ => ?_)⟩
      have e44w : w.1 44 (Int32.toNatClampNeg (nI i)) = nI l[i] := by rw [n_tn i, w44]; exact h2 i _ (Nat.le_refl _) (List.getElem?_eq_getElem hi)
      rw [e44w, n_tn ((l.take i).filter ok).length]
      have := ih (ax_ui w 44 ((l.take i).filter ok).length (nI l[i])) (fw.ui (by unfold scC; omega)) (by rw [ui_cell (by omega)]; exact w11) (fun q s h => by
        rw [etk, hq, if_pos rfl] at h
        by_cases e : q = ((l.take i).filter ok).length
        · rw [e, List.getElem?_append_right (Nat.le_refl _), Nat.sub_self] at h
          have : l[i] = s := Option.some.inj h
          rw [e, ui_same, this]
        · have hq2 : q < ((l.take i).filter ok).length := by
            have := (List.getElem?_eq_some_iff.mp h).1
            rw [List.length_append] at this
            have h1 : [l[i]].length = 1 := rfl
            omega
          rw [List.getElem?_append_left hq2] at h
          rw [ui_idx e, w44]; exact h1 q s h) (fun q s h hs => by
        rw [ui_idx (by omega), w44]; exact h2 q s (by omega) hs)
      rw [etk, hq, if_pos rfl, List.length_append] at this
      rw [nI_1, nI_1]; exact this
/-- the reference's isSo -/
theorem ct_X12_isSo {d : Nat} (hd : 13 ≤ d) {τ u : ax_S} {n : Nat} {E D : Nat → Nat} {dry lw ho : Nat} {L : Nat → List (List (Nat × Nat) × List (Nat × Nat))} {nc : Nat} {no : Nat → Nat} (hb : bk_ok n E D dry) (hM : bk_M τ n E D dry) (hlw : lwok lw ho L) (hlM : lwM τ lw ho L) (hnt : nt_ok n nc no) (hnM : nt_M τ nc no) (hu : KS τ D u) {k s : Nat} (hk : k ≤ 2) (hs : s < 2 ^ D 84) :
    ax_Ct shM d mX12_isSo [ax_r 0, ax_i (nI k), ax_i (nI s)] (fun r w => r = some (ax_i (if sok n D (kpf E D dry ho L) nc no s && gq (dk_lv D) k s then 1 else 0)) ∧ KS τ D w ∧ ∀ i, w.1 27 i = u.1 27 i) u := by
  obtain ⟨d, rfl⟩ : ∃ e, d = e + 1 := ⟨d - 1, by omega⟩
  have hn := hb.2.1
  have h84 := hb.2.2.2.1
  have hkp := kpf_le E D dry ho L
  have hpb := pow_b h84
  have hnc := hnt.1
  have hbc : bc_n s ≤ 17 := fb_ct_le _ _
  have ec : (v_J6_bitCount_0f7a4 (nI s) = nI k) ↔ bc_n s = k := by rw [bc_cnt (by omega)]; exact n_eq _ _
  have es := sub_set (p := dk_lv D) h84 hs
  have eset : pn_set (D 84) (bk_lv D) = pn_set (D 84) (dk_lv D) := pn_set_cong (fun i hi => by unfold dk_lv; rw [decide_eq_true hi, Bool.true_and])
  refine ax_Ct.of (lv := [some (ax_r 0), some (ax_i (nI k)), some (ax_i (nI s)), none, none]) (by decide +kernel) (fun ad => Nat.le_of_ble_eq_true rfl) (fun ad => rfl) ?_
  refine s_X12_isSo_0 (by omega) u _ _ (fun c => ⟨?_, hu, fun _ => rfl⟩) (fun c => ?_)
  · have : gq (dk_lv D) k s = false := by unfold gq; rw [decide_eq_false (fun z => c (ec.mpr z))]; rfl
    rw [this, Bool.and_false]; rfl
  · have q1 : bc_n s = k := ec.mp (Classical.not_not.mp c)
    refine (ct_X12_allLive (by omega) (by omega) (fun w hw => ⟨(hb.2.2.2.2.2.2.2.2 w hw).2.2.2.1, (hb.2.2.2.2.2.2.2.2 w hw).2.2.2.2⟩) hu.2).mono ?_
    rintro r u ⟨rfl, rfl⟩
    refine ⟨_, rfl, ?_⟩
    rw [eset]
    refine s_X12_isSo_13 (by omega) u _ _ _ (fun c => ?_) (fun c => ⟨?_, hu, fun _ => rfl⟩)
    · have q2 : gsub (dk_lv D) s 17 = true := es.mp c
      have q : gq (dk_lv D) k s = true := by unfold gq; rw [q2, decide_eq_true q1]; rfl
      rw [q, Bool.and_true]
      have h0 : ∀ i, i < D 84 → s.testBit i = true → bk_w D i 3 = 0 := fun i hi ht => by
        have := (gsub_iff (dk_lv D) s 17).mp q2 i (by omega) ht
        unfold dk_lv bk_lv at this
        rw [Bool.and_eq_true, Bool.and_eq_true, decide_eq_true_eq, decide_eq_true_eq] at this; exact this.2.1
      have k27 : ∀ {w t : ax_S}, fo scm w t → ∀ i, w.1 27 i = t.1 27 i := fun h i => h.1 27 i (by unfold scm; omega)
      refine (ct_X12_cut1 (by omega) h84 hu hs).mono ?_
      rintro r w ⟨rfl, w1, wf⟩
      have w27 : ∀ i, w.1 27 i = u.1 27 i := fun i => wf.1 27 i (by omega)
      refine ⟨rfl, s_X12_isSo_27 (by omega) w _ ?_⟩
      have fin : ∀ (b : Bool) t, KS τ (cuD D s.testBit) t → (∀ i, t.1 27 i = u.1 27 i) → ax_Ct shM d mX12_cutSet [ax_r 0, ax_i (nI s), ax_i (0 : Int32)] (fun r y => r = none ∧ ax_W shM (d + 1) mX12_isSo (fun r w => r = some (ax_i (if b then 1 else 0)) ∧ KS τ D w ∧ ∀ i, w.1 27 i = u.1 27 i) 101 [none, none, none, some (ax_i (if b then 1 else 0)), none] [] y) t := by
        intro b t ht h27
        refine (ct_X12_cut0 (by omega) h84 ht h0 hs).mono ?_
        rintro r y ⟨rfl, y1, yf⟩
        exact ⟨rfl, s_X12_isSo_101 (by omega) y _ ⟨rfl, y1, fun i => (yf.1 27 i (by omega)).trans (h27 i)⟩ (by cases b <;> decide)⟩
      have loop : ∀ f j t, j + f = nc → KS τ (cuD D s.testBit) t → (∀ i, t.1 27 i = u.1 27 i) → ∀ b : Bool, ax_W shM (d + 1) mX12_isSo (fun r w => r = some (ax_i (if b && soF (soq n D (kpf E D dry ho L) no s) f j then 1 else 0)) ∧ KS τ D w ∧ ∀ i, w.1 27 i = u.1 27 i) 32 [some (ax_r 0), none, some (ax_i (nI s)), some (ax_i (if b then 1 else 0)), some (ax_i (nI j))] [] t := by
        intro f
        induction f with
        | zero =>
          intro j t hj ht h27 b
          have e46 : t.1 0 46 = nI nc := by rw [ht.1.1 0 46 (by unfold scK scM scm; omega)]; exact hnM.1
          have g : t.1 0 46 ≤ nI j := by rw [e46]; exact (n_le _ _).mpr (by omega)
          refine s_X12_isSo_32 (by omega) t _ _ _ (fun _ => ?_) (fun c => absurd g c) (fun c => absurd g c) (fun c => absurd g c)
          rw [soF, Bool.and_true]
          exact fin b t ht h27
        | succ f ih =>
          intro j t hj ht h27 b
          have e46 : t.1 0 46 = nI nc := by rw [ht.1.1 0 46 (by unfold scK scM scm; omega)]; exact hnM.1
          have g : ¬ t.1 0 46 ≤ nI j := by rw [e46]; exact fun z => absurd ((n_le _ _).mp z) (by omega)
          cases b
          · refine s_X12_isSo_32 (by omega) t _ _ _ (fun c => absurd c g) (fun _ _ => ?_) (fun _ c => absurd rfl c) (fun _ c => absurd rfl c)
            rw [Bool.false_and]
            exact fin false t ht h27
          · obtain ⟨b1, b2, b3, b4, b5⟩ := hnt.2 j (by omega)
            obtain ⟨c1, c2, c3, c4⟩ := hnM.2 j (by omega)
            have e23 : t.1 23 (Int32.toNatClampNeg (nI j)) = nI (no (4 * j)) := by rw [n_tn j, ht.1.1 23 _ (by unfold scK scM scm; omega)]; exact c1
            have e24 : t.1 24 (Int32.toNatClampNeg (nI j)) = nI (no (4 * j + 1)) := by rw [n_tn j, ht.1.1 24 _ (by unfold scK scM scm; omega)]; exact c2
            refine s_X12_isSo_32 (by omega) t _ _ _ (fun c => absurd c g) (fun _ c => absurd c (by decide)) (fun _ _ => n_in _ _) (fun _ _ => ?_)
            rw [e23, e24]
            refine (fl_M (by omega) (cu_ok hb _ hkp) (ht.h23 hM.1) ht.2 (ht.K hb hlw hlM hM (fun h hh => cuD_out (by omega))) fo.rfl' b1 b2 b3).mono ?_
            rintro r y ⟨rfl, y1⟩
            have ky := ht.st y1
            have e25 : y.1 25 (Int32.toNatClampNeg (nI j)) = nI (no (4 * j + 2)) := by rw [n_tn j, ky.1.1 25 _ (by unfold scK scM scm; omega)]; exact c3
            have e26 : y.1 26 (Int32.toNatClampNeg (nI j)) = nI (no (4 * j + 3)) := by rw [n_tn j, ky.1.1 26 _ (by unfold scK scM scm; omega)]; exact c4
            refine ⟨_, rfl, s_X12_isSo_63 (by omega) y _ _ _ (n_in _ _) ?_⟩
            rw [e25, e26, so_M (by omega) b5, nI_1]
            have := ih (j + 1) y (by omega) ky (fun i => (k27 y1 i).trans (h27 i)) (soq n D (kpf E D dry ho L) no s j)
            rw [soF, Bool.true_and]; exact this
      have := loop nc 0 w (by omega) w1 w27 true
      rw [Bool.true_and] at this; exact this
    · have q2 : gsub (dk_lv D) s 17 = false := by cases q : gsub (dk_lv D) s 17
                                                  · rfl
                                                  · exact absurd (es.mpr q) c
      have : gq (dk_lv D) k s = false := by unfold gq; rw [q2, Bool.and_false]
      rw [this, Bool.and_false]; rfl
