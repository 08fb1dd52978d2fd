/-! ===== PARTING ===== -/
def ptF (bn : Nat → Nat) (s : Nat × Nat) (x : Nat) : Nat × Nat := if bn x < s.1 then (bn x, x) else s
def ptB (n : Nat) (D : Nat → Nat) (kp : Nat → Nat → Nat → Nat) (x v s : Nat) : Nat := bcn n (cuD D s.testBit) kp x v
theorem ptF_b {n : Nat} (hn : n ≤ 8) {D : Nat → Nat} {kp : Nat → Nat → Nat → Nat} {x v : Nat} {s : Nat × Nat} {t : Nat} (h : s.1 ≤ 9) : (ptF (ptB n D kp x v) s t).1 ≤ 9 := by
  unfold ptF; split
  · have := bcn_le n (cuD D t.testBit) kp x v; show bcn n (cuD D t.testBit) kp x v ≤ 9; omega
  · exact h
theorem cutn_bt {D : Nat → Nat} (h84 : D 84 ≤ 16) (s i : Nat) (hi : i < 32) : bt (pn_set (D 84) (bk_lv D) &&& (nI s ^^^ (-1))) i = (dk_lv D i && !s.testBit i) := by
  rw [b_and, pn_not _ i hi, bt_nI, lv_bt (by omega) i hi, decide_eq_true hi, Bool.true_and]
theorem w_X11_part68 {σ : ax_S} {n : Nat} {E D : Nat → Nat} {dry lw ho : Nat} {L : Nat → List (List (Nat × Nat) × List (Nat × Nat))} (hb : bk_ok n E D dry) (hC : bk_C σ n E D dry) (hlw : lwok lw ho L) (hlC : lwC σ lw ho L) {x v : Nat} (hx : x < n) (hv1 : 1 ≤ v) (hv : v ≤ 999) {x3 x7 : Int32} {Q : Option ax_V → ax_S → Prop} {l : List Nat} (hlen : l.length ≤ 120) :
    ∀ f i s u, i + f = l.length → s.1 ≤ 9 → fo scC u σ → hl u l →
      (∀ u' s', s' = (l.drop i).foldl (ptF (ptB n D (kpf E D dry ho L) x v)) s → s'.1 ≤ 9 → fo scC u' σ → ax_W shC (59 + 1) mX11_parting Q 43 [some (ax_r 0), some (ax_i (nI x)), some (ax_i (nI v)), some (ax_i x3), some (ax_i (pn_set (D 84) (bk_lv D))), some (ax_i (nI s'.1)), some (ax_i (nI s'.2)), some (ax_i (x7 + 1)), none, none] [] u') →
      ax_W shC (59 + 1) mX11_parting Q 68 [some (ax_r 0), some (ax_i (nI x)), some (ax_i (nI v)), some (ax_i x3), some (ax_i (pn_set (D 84) (bk_lv D))), some (ax_i (nI s.1)), some (ax_i (nI s.2)), some (ax_i x7), some (ax_i (nI i)), none] [] u := by
  have hn := hb.2.1
  have h84 := hb.2.2.2.1
  have hkp := kpf_le E D dry ho L
  intro f
  induction f with
  | zero =>
    intro i s u hi hs hu hll k
    have g : u.1 11 1 ≤ nI i := by rw [hll.1]; exact (n_le _ _).mpr (by omega)
    refine s_X11_parting_68 (by omega) u _ _ _ _ _ _ _ _ (fun _ => ?_) (fun c => absurd g c) (fun c => absurd g c)
    refine k u s ?_ hs hu
    rw [List.drop_of_length_le (by omega)]; rfl
  | succ f ih =>
    intro i s u hi hs hu hll k
    have g : ¬ u.1 11 1 ≤ nI i := by rw [hll.1]; exact fun z => absurd ((n_le _ _).mp z) (by omega)
    have hil : i < l.length := by omega
    have e44 : u.1 44 (Int32.toNatClampNeg (nI i)) = nI l[i] := by rw [n_tn i]; exact hll.2 i _ (List.getElem?_eq_getElem hil)
    have ed : (l.drop i).foldl (ptF (ptB n D (kpf E D dry ho L) x v)) s = (l.drop (i + 1)).foldl (ptF (ptB n D (kpf E D dry ho L) x v)) (ptF (ptB n D (kpf E D dry ho L) x v) s l[i]) := by
      rw [List.drop_eq_getElem_cons hil, List.foldl_cons]
    refine s_X11_parting_68 (by omega) u _ _ _ _ _ _ _ _ (fun c => absurd c g) (fun _ => n_in _ _) (fun _ => ?_)
    rw [e44]
    have uC := sc_C hC hu
    refine (fl_C (by omega) (cu_ok hb _ hkp) (cu_sk hb uC _ (cutn_bt h84 l[i])) (sc_K hb hC hlw hlC hu) fo.rfl' hx hv1 hv).mono ?_
    rintro r t ⟨rfl, t1, -, -⟩
    have ft : fo scC t σ := (t1.mono scr_scC).trans hu
    have htl : hl t l := hll.to t1.1 (fun c i hs => by unfold scr at hs; omega)
    have hbl := bcn_le n (cuD D (l[i]).testBit) (kpf E D dry ho L) x v
    have eb : v_J6_bitCount_0f7a4 (dk_bu n (cuD D (l[i]).testBit) (kpf E D dry ho L) x v) = nI (ptB n D (kpf E D dry ho L) x v l[i]) := bcn_eq hn _ _ _ _
    have hbl2 : ptB n D (kpf E D dry ho L) x v l[i] ≤ n := hbl
    refine ⟨_, rfl, s_X11_parting_104 (by omega) t _ _ _ _ _ _ _ _ _ (fun c => ?_) (fun _ => n_in _ _) (fun c => ?_)⟩
    · rw [eb] at c
      have c2 := (n_le s.1 _).mp c
      have e1 : ptF (ptB n D (kpf E D dry ho L) x v) s l[i] = s := by unfold ptF; rw [if_neg (by omega)]
      rw [nI_1]
      refine ih (i + 1) s t (by omega) hs ft htl (fun u' s' hs' => k u' s' ?_)
      rw [ed, e1]; exact hs'
    · rw [eb] at c
      have c2 : ptB n D (kpf E D dry ho L) x v l[i] < s.1 := Nat.not_le.mp (fun q => c ((n_le s.1 _).mpr q))
      have e1 : ptF (ptB n D (kpf E D dry ho L) x v) s l[i] = (ptB n D (kpf E D dry ho L) x v l[i], l[i]) := by unfold ptF; rw [if_pos c2]
      have e44t : t.1 44 (Int32.toNatClampNeg (nI i)) = nI l[i] := by rw [n_tn i]; exact htl.2 i _ (List.getElem?_eq_getElem hil)
      rw [eb, e44t, nI_1]
      refine ih (i + 1) (ptB n D (kpf E D dry ho L) x v l[i], l[i]) t (by omega) (by show ptB n D (kpf E D dry ho L) x v l[i] ≤ 9; omega) ft htl (fun u' s' hs' => k u' s' ?_)
      rw [ed, e1]; exact hs'
theorem w_X12_part55 {τ : ax_S} {n : Nat} {E D : Nat → Nat} {dry lw ho : Nat} {L : Nat → List (List (Nat × Nat) × List (Nat × Nat))} (hb : bk_ok n E D dry) (hM : bk_M τ n E D dry) (hlw : lwok lw ho L) (hlM : lwM τ lw ho L) {x v : Nat} (hx : x < n) (hv1 : 1 ≤ v) (hv : v ≤ 999) {x3 : Int32} {k : Nat} (hk : k ≤ 2) {Q : Option ax_V → ax_S → Prop} :
    ∀ f t s u, t + f = 2 ^ D 84 → s.1 ≤ 9 → KS τ D u →
      (∀ u' s', s' = ((List.range' t f).filter (gq (ucP D) k)).foldl (ptF (ptB n D (kpf E D dry ho L) x v)) s → s'.1 ≤ 9 → KS τ D u' → ax_W shM (59 + 1) mX12_parting Q 46 [some (ax_r 0), some (ax_i (nI x)), some (ax_i (nI v)), some (ax_i x3), some (ax_i (nI s'.2)), some (ax_i (nI s'.1)), some (ax_i (pn_set (D 84) (ucP D))), some (ax_i (nI k + 1)), none, none] [] u') →
      ax_W shM (59 + 1) mX12_parting Q 55 [some (ax_r 0), some (ax_i (nI x)), some (ax_i (nI v)), some (ax_i x3), some (ax_i (nI s.2)), some (ax_i (nI s.1)), some (ax_i (pn_set (D 84) (ucP D))), some (ax_i (nI k)), some (ax_i (nI t)), none] [] u := by
  have hn := hb.2.1
  have h84 := hb.2.2.2.1
  have hkp := kpf_le E D dry ho L
  have hpb := pow_b h84
  intro f
  induction f with
  | zero =>
    intro t s u ht hs hu K
    have e84 : u.1 15 84 = nI (D 84) := hu.2 84 (by omega)
    have g : ((1 : Int32) <<< ((u.1 15 84) &&& 31)) ≤ nI t := by rw [e84, n_pow h84]; exact (n_le _ _).mpr (by omega)
    refine s_X12_parting_55 (by omega) u _ _ _ _ _ _ _ _ (fun _ => ?_) (fun c => absurd g c) (fun c => absurd g c) (fun c => absurd g c)
    exact K u s rfl hs hu
  | succ f ih =>
    intro t s u ht hs hu K
    have e84 : u.1 15 84 = nI (D 84) := hu.2 84 (by omega)
    have g : ¬ ((1 : Int32) <<< ((u.1 15 84) &&& 31)) ≤ nI t := by rw [e84, n_pow h84]; exact fun z => absurd ((n_le _ _).mp z) (by omega)
    have htp : t < 2 ^ D 84 := by omega
    have hbc : bc_n t ≤ 17 := fb_ct_le _ _
    have ec : (v_J6_bitCount_0f7a4 (nI t) = nI k) ↔ bc_n t = k := by rw [bc_cnt (by omega)]; exact n_eq _ _
    have es := sub_set (p := ucP D) h84 htp
    rw [range_s] at K
    have no : gq (ucP D) k t = false → ax_W shM (59 + 1) mX12_parting Q 55 [some (ax_r 0), some (ax_i (nI x)), some (ax_i (nI v)), some (ax_i x3), some (ax_i (nI s.2)), some (ax_i (nI s.1)), some (ax_i (pn_set (D 84) (ucP D))), some (ax_i (nI k)), some (ax_i (nI t + 1)), none] [] u := fun q => by
      rw [nI_1]
      refine ih (t + 1) s u (by omega) hs hu (fun u' s' hs' => K u' s' ?_)
      rw [if_neg (by rw [q]; decide)]; exact hs'
    refine s_X12_parting_55 (by omega) u _ _ _ _ _ _ _ _ (fun c => absurd c g) (fun _ c => ?_) (fun _ _ c => ?_) (fun _ c c2 => ?_)
    · refine no ?_
      unfold gq; rw [decide_eq_false (fun z => c (ec.mpr z))]; rfl
    · refine no ?_
      cases q : gsub (ucP D) t 17
      · unfold gq; rw [q, Bool.and_false]
      · exact absurd (es.mpr q) c
    · have q1 : bc_n t = k := ec.mp (Classical.not_not.mp c)
      have q2 : gsub (ucP D) t 17 = true := es.mp (Classical.not_not.mp c2)
      have q : gq (ucP D) k t = true := by unfold gq; rw [q2, decide_eq_true q1]; rfl
      have h0 : ∀ i, i < D 84 → t.testBit i = true → bk_w D i 3 = 0 := fun i hi ht => by
        have := (gsub_iff (ucP D) t 17).mp q2 i (by omega) ht
        unfold ucP at this
        rw [Bool.and_eq_true, decide_eq_true_eq, decide_eq_true_eq] at this; exact this.2
      rw [if_pos q] at K
      refine (ct_X12_cut1 (by omega) h84 hu htp).mono ?_
      rintro r w ⟨rfl, w1, -⟩
      refine ⟨rfl, s_X12_parting_96 (by omega) w _ _ _ _ _ _ _ _ ?_⟩
      refine (ct_X12_burnMany (by omega) (cu_ok hb _ hkp) (w1.h23 hM.1) w1.2 (w1.K hb hlw hlM hM (fun h hh => cuD_out (by omega))) hx hv1 hv).mono ?_
      rintro r y ⟨rfl, y1⟩
      refine ⟨_, rfl, s_X12_parting_102 (by omega) y _ _ _ _ _ _ _ _ _ ?_⟩
      refine (ct_X12_cut0 (by omega) h84 (w1.st y1) h0 htp).mono ?_
      rintro r z ⟨rfl, z1, -⟩
      have hbl : ptB n D (kpf E D dry ho L) x v t ≤ n := bcn_le _ _ _ _ _
      refine ⟨rfl, s_X12_parting_111 (by omega) z _ _ _ _ _ _ _ _ _ (fun c => ?_) (fun c => ?_)⟩
      · have c2 : s.1 ≤ ptB n D (kpf E D dry ho L) x v t := (n_le s.1 _).mp c
        rw [nI_1]
        refine ih (t + 1) s z (by omega) hs z1 (fun u' s' hs' => K u' s' ?_)
        have e1 : ptF (ptB n D (kpf E D dry ho L) x v) s t = s := by unfold ptF; rw [if_neg (by omega)]
        rw [List.foldl_cons, e1]; exact hs'
      · have c2 : ptB n D (kpf E D dry ho L) x v t < s.1 := Nat.not_le.mp (fun q => c ((n_le s.1 (ptB n D (kpf E D dry ho L) x v t)).mpr q))
        rw [nI_1]
        refine ih (t + 1) (ptB n D (kpf E D dry ho L) x v t, t) z (by omega) (by show ptB n D (kpf E D dry ho L) x v t ≤ 9; omega) z1 (fun u' s' hs' => K u' s' ?_)
        have e1 : ptF (ptB n D (kpf E D dry ho L) x v) s t = (ptB n D (kpf E D dry ho L) x v t, t) := by unfold ptF; rw [if_pos c2]
        rw [List.foldl_cons, e1]; exact hs'
theorem cuD_nil (D : Nat → Nat) : cuD D (0 : Nat).testBit = D := by
  funext j
  unfold cuD
  rw [if_neg (fun z => by have := z.2.2.2; rw [Nat.zero_testBit] at this; cases this)]
theorem gs_ref {p : Nat → Bool} {m k : Nat} (hm : m ≤ 16) (hp : ∀ i, m ≤ i → p i = false) : (List.range' 0 (2 ^ m)).filter (gq p k) = gs p k 16 := by
  rw [← List.range_eq_range', gs_eq p m k hm]
  have := gs_up (k := k) hp (16 - m)
  rw [← this]; congr 1; omega
theorem ucP_out {D : Nat → Nat} (i : Nat) (h : D 84 ≤ i) : ucP D i = false := by unfold ucP; rw [decide_eq_false (by omega)]; rfl
theorem good_parting {j : Nat} {σ τ : ax_S} (h : RR j σ τ) (a0 a1 a2 : Int32) : good j mX11_parting mX12_parting [ax_i a0, ax_i a1, ax_i a2] σ τ := by
  obtain ⟨n, E, D, dry, lw, ho, L, nc, no, hb, hlg, hlw, hnt, hC, hM, hlC, hlM, hnC, hnM, hnext⟩ := h.sets
  have hn := hb.2.1
  have h84 := hb.2.2.2.1
  have hkp := kpf_le E D dry ho L
  by_cases g : (∃ x, x < n ∧ a0 = nI x) ∧ (∃ k, 1 ≤ k ∧ k ≤ 999 ∧ a1 = nI k) ∧ ∃ b : Bool, a2 = if b then 1 else 0
  · obtain ⟨⟨x, hx, rfl⟩, ⟨v, hv1, hv, rfl⟩, w, rfl⟩ := g
    have q1 : ¬ nI x < 0 ∧ ¬ σ.1 5 9 ≤ nI x := by rw [hC.1]; exact (is_H (nI x) n).mpr ⟨x, hx, rfl⟩
    have q2 : ¬ nI x < (0 : Int32) ∧ ¬ τ.1 0 23 - 1 < nI x := by rw [hM.1]; exact (is_Hm (nI x) n).mpr ⟨x, hx, rfl⟩
    have q3 : ¬ nI v < (1 : Int32) ∧ ¬ (999 : Int32) < nI v := (in_R (nI v) 1 999).mpr ⟨v, hv1, hv, rfl⟩
    have bw := (bit_C (if w then 1 else 0)).mpr ⟨w, rfl⟩
    have mw := (bit_M (if w then 1 else 0)).mpr ⟨w, rfl⟩
    let F := ptF (ptB n D (kpf E D dry ho L) x v)
    let s0 : Nat × Nat := (ptB n D (kpf E D dry ho L) x v 0, 0)
    let s1 := (gs (ucP D) 1 16).foldl F s0
    let s2 := (gs (ucP D) 2 16).foldl F s1
    have hb0 : s0.1 ≤ 8 := Nat.le_trans (bcn_le _ _ _ _ _) hn
    refine ⟨if w then nI s2.1 else nI s2.2, fun u => fo scC u σ, fun w => KS τ D w, ?_, ?_, hnext⟩
    · refine ax_Ct.of (lv := [some (ax_r 0), some (ax_i (nI x)), some (ax_i (nI v)), some (ax_i (if w then 1 else 0)), none, none, none, none, none, none]) (by decide +kernel) (fun ad => Nat.le_of_ble_eq_true rfl) (fun ad => rfl) ?_
      refine s_X11_parting_0 (d := 59) (by omega) σ _ _ _ (fun c => absurd q1 c) (fun _ c => absurd q3 c) (fun _ _ _ => ?_) (fun _ _ c => absurd bw c)
      refine (ct_live (by omega) hb hC).mono ?_
      rintro r u ⟨rfl, rfl⟩
      refine ⟨_, rfl, s_X11_parting_31 (by omega) u _ _ _ _ ?_⟩
      -- one round of sets of k wires
      have round : ∀ k, k ≤ 2 → ∀ (s : Nat × Nat) t, s.1 ≤ 9 → fo scC t u → (∀ t', fo scC t' u → ∀ s', s' = (gs (ucP D) k 16).foldl F s → s'.1 ≤ 9 → ax_W shC (59 + 1) mX11_parting (fun r t => r = some (ax_i (if w then nI s2.1 else nI s2.2)) ∧ fo scC t u) 43 [some (ax_r 0), some (ax_i (nI x)), some (ax_i (nI v)), some (ax_i (if w then 1 else 0)), some (ax_i (pn_set (D 84) (bk_lv D))), some (ax_i (nI s'.1)), some (ax_i (nI s'.2)), some (ax_i (nI (k + 1))), none, none] [] t') →
          ax_W shC (59 + 1) mX11_parting (fun r t => r = some (ax_i (if w then nI s2.1 else nI s2.2)) ∧ fo scC t u) 43 [some (ax_r 0), some (ax_i (nI x)), some (ax_i (nI v)), some (ax_i (if w then 1 else 0)), some (ax_i (pn_set (D 84) (bk_lv D))), some (ax_i (nI s.1)), some (ax_i (nI s.2)), some (ax_i (nI k)), none, none] [] t := by
        intro k hk s t hs ht K
        have tC := sc_C hC ht
        refine s_X11_parting_43 (by omega) t _ _ _ _ _ _ _ (fun c => absurd ((n_lt 2 k).mp c) (by omega)) (fun _ => ?_)
        refine (ct_X10_gather (by omega) (fun i hi => uncut_bt hb tC i (by omega)) hk).mono ?_
        rintro r y ⟨rfl, y1, y2⟩
        refine ⟨rfl, s_X11_parting_65 (by omega) y _ _ _ _ _ _ _ ?_⟩
        refine w_X11_part68 hb hC hlw hlC hx hv1 hv (gs_l hk (by omega)) _ 0 s y (Nat.zero_add _) hs ((y1.mono scW_scC).trans ht) y2 (fun u' s' hs' hb' hu' => ?_)
        rw [nI_1]
        exact K u' hu' s' (by rw [hs']; rfl) hb'
      refine round 0 (by omega) (9, 0) u (by show (9 : Nat) ≤ 9; omega) fo.rfl' (fun t1 ht1 z1 hz1 hz1b => ?_)
      have e0 : z1 = s0 := by
        rw [hz1, gs_0]
        show (if ptB n D (kpf E D dry ho L) x v 0 < 9 then (ptB n D (kpf E D dry ho L) x v 0, 0) else (9, 0)) = s0
        rw [if_pos (by have : ptB n D (kpf E D dry ho L) x v 0 ≤ 8 := hb0
                       omega)]
      subst e0
      refine round 1 (by omega) _ t1 hz1b ht1 (fun t2 ht2 z2 hz2 hz2b => ?_)
      refine round 2 (by omega) _ t2 hz2b ht2 (fun t3 ht3 z3 hz3 hz3b => ?_)
      refine s_X11_parting_43 (by omega) t3 _ _ _ _ _ _ _ (fun _ => ⟨?_, ht3⟩) (fun c => absurd ((n_lt 2 3).mpr (by omega)) c)
      have : z3 = s2 := by rw [hz3, hz2]
      rw [this]
      cases w
      · rfl
      · rfl
    · refine ax_Ct.of (lv := [some (ax_r 0), some (ax_i (nI x)), some (ax_i (nI v)), some (ax_i (if w then 1 else 0)), none, none, none, none, none, none]) (by decide +kernel) (fun ad => Nat.le_of_ble_eq_true rfl) (fun ad => rfl) ?_
      refine s_X12_parting_0 (d := 59) (by omega) τ _ _ _ (fun c => absurd q2 c) (fun _ c => absurd q3 c) (fun _ _ _ => ?_) (fun _ _ c => absurd mw c)
      have k0 : KS τ D τ := ⟨fo.rfl', hM.2.2.1⟩
      refine (ct_X12_burnMany (by omega) (st_ok hb hkp) hM.1 hM.2.2.1 (k0.K hb hlw hlM hM (fun _ _ => rfl)) hx hv1 hv).mono ?_
      rintro r u ⟨rfl, u1⟩
      have ku := k0.st u1
      refine ⟨_, rfl, s_X12_parting_35 (by omega) u _ _ _ _ _ ?_⟩
      refine (ct_X12_uncut (by omega) hb ku.2).mono ?_
      rintro r u2 ⟨rfl, rfl⟩
      refine ⟨_, rfl, s_X12_parting_41 (by omega) u2 _ _ _ _ _ _ ?_⟩
      have eset : pn_set (D 84) (fun w => decide (bk_w D w 3 = 0)) = pn_set (D 84) (ucP D) := pn_set_cong (fun i hi => by unfold ucP; rw [decide_eq_true hi, Bool.true_and])
      have ebn : bcn n D (kpf E D dry ho L) x v = s0.1 := by
        show _ = bcn n (cuD D (0 : Nat).testBit) (kpf E D dry ho L) x v
        rw [cuD_nil]
      rw [eset, ebn]
      have round : ∀ k, 1 ≤ k → k ≤ 2 → ∀ (s : Nat × Nat) t, s.1 ≤ 9 → KS τ D t → (∀ t', KS τ D t' → ∀ s', s' = (gs (ucP D) k 16).foldl F s → s'.1 ≤ 9 → ax_W shM (59 + 1) mX12_parting (fun r t => r = some (ax_i (if w then nI s2.1 else nI s2.2)) ∧ KS τ D t) 46 [some (ax_r 0), some (ax_i (nI x)), some (ax_i (nI v)), some (ax_i (if w then 1 else 0)), some (ax_i (nI s'.2)), some (ax_i (nI s'.1)), some (ax_i (pn_set (D 84) (ucP D))), some (ax_i (nI (k + 1))), none, none] [] t') →
          ax_W shM (59 + 1) mX12_parting (fun r t => r = some (ax_i (if w then nI s2.1 else nI s2.2)) ∧ KS τ D t) 46 [some (ax_r 0), some (ax_i (nI x)), some (ax_i (nI v)), some (ax_i (if w then 1 else 0)), some (ax_i (nI s.2)), some (ax_i (nI s.1)), some (ax_i (pn_set (D 84) (ucP D))), some (ax_i (nI k)), none, none] [] t := by
        intro k hk1 hk s t hs ht K
        refine s_X12_parting_46 (by omega) t _ _ _ _ _ _ _ (fun c => absurd ((n_lt 2 k).mp c) (by omega)) (fun _ => ?_)
        refine w_X12_part55 hb hM hlw hlM hx hv1 hv hk (2 ^ D 84) 0 s t (Nat.zero_add _) hs ht (fun u' s' hs' hb' hu' => ?_)
        rw [nI_1]
        rw [gs_ref h84 ucP_out] at hs'
        exact K u' hu' s' hs' hb'
      refine round 1 (by omega) (by omega) s0 u2 (by omega) ku (fun t2 ht2 z2 hz2 hz2b => ?_)
      refine round 2 (by omega) (by omega) _ t2 hz2b ht2 (fun t3 ht3 z3 hz3 hz3b => ?_)
      refine s_X12_parting_46 (by omega) t3 _ _ _ _ _ _ _ (fun _ => ⟨?_, ht3⟩) (fun c => absurd ((n_lt 2 3).mpr (by omega)) c)
      have : z3 = s2 := by rw [hz3, hz2]
      rw [this]
      cases w
      · rfl
      · rfl
  · refine good.ask h (-1) ?_ ?_
    · refine ax_Ct.of (lv := [some (ax_r 0), some (ax_i a0), some (ax_i a1), some (ax_i a2), none, none, none, none, none, none]) (by decide +kernel) (fun ad => Nat.le_of_ble_eq_true rfl) (fun ad => rfl) ?_
      exact s_X11_parting_0 (d := 59) (by omega) σ _ _ _ (fun _ => ⟨rfl, fo.rfl'⟩) (fun _ _ => ⟨rfl, fo.rfl'⟩) (fun c1 c2 c3 => absurd ⟨(is_H _ n).mp (by rw [← hC.1]; exact c1), (in_R _ 1 999).mp c2, (bit_C _).mp c3⟩ g) (fun _ _ _ => ⟨rfl, fo.rfl'⟩)
    · refine ax_Ct.of (lv := [some (ax_r 0), some (ax_i a0), some (ax_i a1), some (ax_i a2), none, none, none, none, none, none]) (by decide +kernel) (fun ad => Nat.le_of_ble_eq_true rfl) (fun ad => rfl) ?_
      exact s_X12_parting_0 (d := 59) (by omega) τ _ _ _ (fun _ => ⟨rfl, fo.rfl'⟩) (fun _ _ => ⟨rfl, fo.rfl'⟩) (fun c1 c2 c3 => absurd ⟨(is_Hm _ n).mp (by rw [← hM.1]; exact c1), (in_R _ 1 999).mp c2, (bit_M _).mp c3⟩ g) (fun _ _ _ => ⟨rfl, fo.rfl'⟩)
