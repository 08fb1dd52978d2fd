/-! ===== LEAVES ===== -/
theorem mok_comm (D : Nat → Nat) (kp : Nat → Nat → Nat → Nat) (x y z v : Nat) : mok D kp x y z v = mok D kp x z y v := by unfold mok; omega
def oneP (w : Nat) (k : Nat) : Bool := decide (k = w)
def lvq (D : Nat → Nat) (kp : Nat → Nat → Nat → Nat) (v w : Nat) (a b : Nat) : Bool := decide (mok (cuD D (oneP w)) kp a a b v < mok D kp a a b v)
def lvs (D : Nat → Nat) (kp : Nat → Nat → Nat → Nat) (v w : Nat) : Bool := lvq D kp v w (bk_w D w 0) (bk_w D w 1) || lvq D kp v w (bk_w D w 1) (bk_w D w 0)
theorem mok_lt {n : Nat} {D : Nat → Nat} {kp : Nat → Nat → Nat → Nat} (hok : dk_ok n D kp) {x y z v : Nat} (hx : x < n) (hy : y < n) (hz : z < n) (hv1 : 1 ≤ v) (hv : v ≤ 999) : mok D kp x y z v ≤ 999 := by
  have b1 := dk_run_k hok hy hv1 hx
  have b2 := dk_run_k hok hz hv1 hx
  unfold mok; omega
theorem cut_bt {D : Nat → Nat} (h84 : D 84 ≤ 16) {w : Nat} (hw : w < 32) (i : Nat) (hi : i < 32) : bt (pn_set (D 84) (bk_lv D) &&& (((1 : Int32) <<< (nI w &&& 31)) ^^^ (-1))) i = (dk_lv D i && !oneP w i) := by
  rw [b_and, pn_not _ i hi, pn_one w hw i hi, lv_bt (by omega) i hi]; rfl
theorem ct_X11_wouldLeave {d : Nat} (hd : 12 ≤ d) {σ : ax_S} {n : Nat} {E D : Nat → Nat} {dry : Nat} {kp : Nat → Nat → Nat → Nat} (hb : bk_ok n E D dry) (hC : bk_C σ n E D dry) (hkp : ∀ h p c, kp h p c ≤ p) (hK : sk_K σ n kp) {w v : Nat} (hw : w < D 84) (hv1 : 1 ≤ v) (hv : v ≤ 999) :
    ax_Ct shC d mX11_wouldLeave [ax_r 0, ax_i (pn_set (D 84) (bk_lv D)), ax_i (nI w), ax_i (nI v)] (fun r u => r = some (ax_i (if lvs D kp v w then 1 else 0)) ∧ fo scr u σ) σ := by
  obtain ⟨d, rfl⟩ : ∃ e, d = e + 1 := ⟨d - 1, by omega⟩
  have hn := hb.2.1
  have h84 := hb.2.2.2.1
  obtain ⟨a1, a2, a3, -, -⟩ := hb.2.2.2.2.2.2.2.2 w hw
  obtain ⟨e1, e2, -⟩ := hC.2.2.2.2.2.2.1 w hw
  have ok1 := st_ok hb hkp
  have ok2 := cu_ok hb (oneP w) hkp
  have s1 := st_C hb hC
  have s2 := cu_sk hb hC (oneP w) (cut_bt h84 (by omega : w < 32))
  have l1 := mok_lt ok1 a1 a1 a2 hv1 hv
  have l2 := mok_lt ok2 a1 a1 a2 hv1 hv
  have l3 := mok_lt ok1 a2 a2 a1 hv1 hv
  have l4 := mok_lt ok2 a2 a2 a1 hv1 hv
  refine ax_Ct.of (lv := [some (ax_r 0), some (ax_i (pn_set (D 84) (bk_lv D))), some (ax_i (nI w)), some (ax_i (nI v)), none, none, none]) (by decide +kernel) (fun ad => Nat.le_of_ble_eq_true rfl) (fun ad => rfl) ?_
  refine s_X11_wouldLeave_0 (by omega) σ _ _ _ (n_in _ _) ?_
  rw [n_tn w, e1, e2]
  refine (ct_X11_mostKept (by omega) ok2 s2 hK a1 a2 hv1 hv).mono ?_
  rintro r u ⟨rfl, u1⟩
  refine ⟨_, rfl, s_X11_wouldLeave_42 (by omega) u _ _ _ _ _ _ ?_⟩
  refine (ct_X11_mostKept (by omega) ok1 (s1.to u1) (hK.to u1) a1 a2 hv1 hv).mono ?_
  rintro r u2 ⟨rfl, u2h⟩
  have f2 := u2h.trans u1
  refine ⟨_, rfl, s_X11_wouldLeave_52 (by omega) u2 _ _ _ _ _ _ _ (fun c => ⟨?_, f2⟩) (fun c => ?_)⟩
  · have c2 := (n_lt _ _).mp c
    unfold lvs lvq; rw [decide_eq_true c2]; rfl
  · have c2 : ¬ mok (cuD D (oneP w)) kp (bk_w D w 0) (bk_w D w 0) (bk_w D w 1) v < mok D kp (bk_w D w 0) (bk_w D w 0) (bk_w D w 1) v := fun q => c ((n_lt _ _).mpr q)
    refine (ct_X11_mostKept (by omega) ok2 (s2.to f2) (hK.to f2) a2 a1 hv1 hv).mono ?_
    rintro r u3 ⟨rfl, u3h⟩
    have f3 := u3h.trans f2
    refine ⟨_, rfl, s_X11_wouldLeave_66 (by omega) u3 _ _ _ _ _ ?_⟩
    refine (ct_X11_mostKept (by omega) ok1 (s1.to f3) (hK.to f3) a2 a1 hv1 hv).mono ?_
    rintro r u4 ⟨rfl, u4h⟩
    refine ⟨_, rfl, s_X11_wouldLeave_76 (by omega) u4 _ _ ⟨?_, u4h.trans f3⟩⟩
    unfold lvs
    have e : lvq D kp v w (bk_w D w 0) (bk_w D w 1) = false := by unfold lvq; rw [decide_eq_false c2]
    rw [e, Bool.false_or]
    unfold lvq
    by_cases z : mok (cuD D (oneP w)) kp (bk_w D w 1) (bk_w D w 1) (bk_w D w 0) v < mok D kp (bk_w D w 1) (bk_w D w 1) (bk_w D w 0) v
    · rw [if_pos (fun q => absurd ((n_le _ _).mp q) (by omega)), decide_eq_true z]; rfl
    · rw [if_neg (not_not_intro ((n_le _ _).mpr (by omega))), decide_eq_false z]; rfl
theorem pn_set_succ (k : Nat) (p : Nat → Bool) : pn_set (k + 1) p = pn_set k p ||| (if p k then ((1 : Int32) <<< (nI k &&& 31)) else 0) := rfl
theorem or_z (x : Int32) : x ||| 0 = x := b_ext fun i _ => by rw [b_or, b_0, Bool.or_false]
theorem pn_set_up {k : Nat} {p : Nat → Bool} (h : p k = true) : pn_set k p ||| ((1 : Int32) <<< (nI k &&& 31)) = pn_set (k + 1) p := by rw [pn_set_succ, if_pos h]
theorem pn_set_no {k : Nat} {p : Nat → Bool} (h : p k = false) : pn_set (k + 1) p = pn_set k p := by rw [pn_set_succ, if_neg (by rw [h]; decide), or_z]
theorem good_leaves {j : Nat} {σ τ : ax_S} (h : RR j σ τ) (a0 : Int32) : good j mX11_leaves mX12_leaves [ax_i a0] σ τ := by
  obtain ⟨n, E, D, dry, lw, ho, L, hb, hlg, hlw, hC, hsm, hM, hlC, hlM, hnext⟩ := h.thought
  have hn := hb.2.1
  have h84 := hb.2.2.2.1
  have hkp := kpf_le E D dry ho L
  have iC : IC σ n E D dry σ := ⟨fo.rfl', hC, hsm⟩
  have iM : IM τ n E D dry τ := ⟨fo.rfl', D, eqv.rfl', hlg, hM⟩
  have zC := hb_C hC.1 hn
  have zM := hb_M hM.1 hn
  by_cases g : ¬ n = 0 ∧ ∃ k, 1 ≤ k ∧ k ≤ 999 ∧ a0 = nI k
  · obtain ⟨hn0, v, hv1, hv, rfl⟩ := g
    have q1 : ¬ σ.1 5 9 ≤ 0 := fun q => hn0 (zC.mp q)
    have q2 : ¬ τ.1 0 23 = 0 := fun q => hn0 (zM.mp q)
    have q3 : ¬ nI v < (1 : Int32) ∧ ¬ (999 : Int32) < nI v := (in_R (nI v) 1 999).mpr ⟨v, hv1, hv, rfl⟩
    refine ⟨pn_set (D 84) (fun w => bk_lv D w && lvs D (kpf E D dry ho L) v w), IC σ n E D dry, IM τ n E D dry, ?_, ?_, hnext⟩
    · have hK := iC.K hb hlw hlC
      refine ax_Ct.of (lv := [some (ax_r 0), some (ax_i (nI v)), none, none, none]) (by decide +kernel) (fun ad => Nat.le_of_ble_eq_true rfl) (fun ad => rfl) ?_
      refine s_X11_leaves_0 (d := 59) (by omega) σ _ (fun c => absurd q1 c) (fun _ _ => ?_) (fun _ c => absurd q3 c)
      refine (ct_live (by omega) hb hC).mono ?_
      rintro r u ⟨rfl, rfl⟩
      refine ⟨_, rfl, s_X11_leaves_23 (by omega) u _ _ ?_⟩
      have loop := lp_up (m := D 84) (P := fun k => ∀ w, fo scr w u → ax_W shC (59 + 1) mX11_leaves (fun r t => r = some (ax_i (pn_set (D 84) (fun w => bk_lv D w && lvs D (kpf E D dry ho L) v w))) ∧ IC u n E D dry t) 29 [some (ax_r 0), some (ax_i (nI v)), some (ax_i (pn_set (D 84) (bk_lv D))), some (ax_i (pn_set k (fun w => bk_lv D w && lvs D (kpf E D dry ho L) v w))), some (ax_i (nI k))] [] w) ?_ ?_
      · exact loop 0 (Nat.zero_le _) u fo.rfl'
      · intro w hw
        have e10 : w.1 5 10 = nI (D 84) := by rw [hw.1 5 10 (by unfold scr; omega)]; exact hC.2.1
        exact s_X11_leaves_29 (by omega) w _ _ _ _ (fun _ => ⟨rfl, iC.st hw⟩) (fun c => absurd (by rw [e10]; exact (n_le _ _).mpr (Nat.le_refl _)) c) (fun c => absurd (by rw [e10]; exact (n_le _ _).mpr (Nat.le_refl _)) c)
      · intro k hk ih w hw
        have e10 : w.1 5 10 = nI (D 84) := by rw [hw.1 5 10 (by unfold scr; omega)]; exact hC.2.1
        have hbit := pn_bitOf1 (pn_set (D 84) (bk_lv D)) k (by omega)
        rw [lv_bt (by omega) k (by omega)] at hbit
        have elv : dk_lv D k = bk_lv D k := by unfold dk_lv; rw [decide_eq_true hk, Bool.true_and]
        rw [elv] at hbit
        refine s_X11_leaves_29 (by omega) w _ _ _ _ (fun c => absurd (by rw [e10] at c; exact (n_le _ _).mp c) (by omega)) (fun _ c => ?_) (fun _ c => ?_)
        · have z : bk_lv D k = false := by cases q : bk_lv D k
                                           · rfl
                                           · exact absurd (hbit.mpr q) c
          rw [nI_1]
          have := ih w hw
          rw [pn_set_no (by rw [z]; rfl)] at this; exact this
        · have z : bk_lv D k = true := hbit.mp (Classical.not_not.mp c)
          have iw := iC.st hw
          refine (ct_X11_wouldLeave (by omega) hb iw.2.1 hkp (hK.to hw) hk hv1 hv).mono ?_
          rintro r t ⟨rfl, t1⟩
          refine ⟨_, rfl, ?_⟩
          cases y : lvs D (kpf E D dry ho L) v k
          · refine s_X11_leaves_59 (by omega) t _ _ _ _ _ (fun _ => ?_) (fun c => absurd rfl c)
            rw [nI_1]
            have := ih t (t1.trans hw)
            rw [pn_set_no (by rw [y]; exact Bool.and_false _)] at this; exact this
          · refine s_X11_leaves_59 (by omega) t _ _ _ _ _ (fun c => absurd c (by decide)) (fun _ => ?_)
            rw [nI_1, pn_set_up (p := fun w => bk_lv D w && lvs D (kpf E D dry ho L) v w) (by rw [y, z]; rfl)]
            exact ih t (t1.trans hw)
    · refine ax_Ct.of (lv := [some (ax_r 0), some (ax_i (nI v)), none, none, none, none, none, none]) (by decide +kernel) (fun ad => Nat.le_of_ble_eq_true rfl) (fun ad => rfl) ?_
      refine s_X12_leaves_0 (d := 59) (by omega) τ _ (fun c => absurd c q2) (fun _ _ => ?_) (fun _ c => absurd q3 c)
      have loop := lp_up (m := D 84) (P := fun k => ∀ w, KM τ D w → ax_W shM (59 + 1) mX12_leaves (fun r t => r = some (ax_i (pn_set (D 84) (fun w => bk_lv D w && lvs D (kpf E D dry ho L) v w))) ∧ IM τ n E D dry t) 20 [some (ax_r 0), some (ax_i (nI v)), some (ax_i (pn_set k (fun w => bk_lv D w && lvs D (kpf E D dry ho L) v w))), some (ax_i (nI k)), none, none, none, none] [] w) ?_ ?_
      · exact loop 0 (Nat.zero_le _) τ ⟨fo.rfl', hM.2.2.1⟩
      · intro w hw
        have e84 : w.1 15 84 = nI (D 84) := hw.2 84 (by omega)
        have gle : w.1 15 84 ≤ nI (D 84) := by rw [e84]; exact (n_le _ _).mpr (Nat.le_refl _)
        exact s_X12_leaves_20 (by omega) w _ _ _ (fun _ => ⟨rfl, hw.back hM hlg⟩) (fun c => absurd gle c) (fun c => absurd gle c) (fun c => absurd gle c) (fun c => absurd gle c) (fun c => absurd gle c) (fun c => absurd gle c)
      · intro k hk ih w hw
        obtain ⟨a1, a2, a3, a4, a5⟩ := hb.2.2.2.2.2.2.2.2 k hk
        have e84 : w.1 15 84 = nI (D 84) := hw.2 84 (by omega)
        have gle : ¬ w.1 15 84 ≤ nI k := by rw [e84]; exact fun z => absurd ((n_le _ _).mp z) (by omega)
        have i3 : (16 : Int32) + 4 * nI k + 3 = nI (16 + 4 * k + 3) := n_w k 3
        have i2 : (16 : Int32) + 4 * nI k + 2 = nI (16 + 4 * k + 2) := n_w k 2
        have i1 : (16 : Int32) + 4 * nI k + 1 = nI (16 + 4 * k + 1) := n_w k 1
        have i0 : (16 : Int32) + 4 * nI k + 0 = nI (16 + 4 * k + 0) := n_w k 0
        have w3 : w.1 15 (16 + 4 * k + 3) = nI (bk_w D k 3) := hw.2 _ (by omega)
        have w2 : w.1 15 (16 + 4 * k + 2) = nI (bk_w D k 2) := hw.2 _ (by omega)
        have w1 : w.1 15 (16 + 4 * k + 1) = nI (bk_w D k 1) := hw.2 _ (by omega)
        have w0 : w.1 15 (16 + 4 * k + 0) = nI (bk_w D k 0) := hw.2 _ (by omega)
        have t3 : Int32.toNatClampNeg (nI (16 + 4 * k + 3)) = 16 + 4 * k + 3 := n_tn _
        have t2 : Int32.toNatClampNeg (nI (16 + 4 * k + 2)) = 16 + 4 * k + 2 := n_tn _
        have t1 : Int32.toNatClampNeg (nI (16 + 4 * k + 1)) = 16 + 4 * k + 1 := n_tn _
        have t0 : Int32.toNatClampNeg (nI (16 + 4 * k + 0)) = 16 + 4 * k + 0 := n_tn _
        have hlv := lv_if (D := D) (k := k) a4 a5
        have ok1 := st_ok hb hkp
        have ok2 := cu_ok hb (oneP k) hkp
        have l1 := mok_lt ok1 a1 a1 a2 hv1 hv
        have l2 := mok_lt ok2 a1 a1 a2 hv1 hv
        have l3 := mok_lt ok1 a2 a2 a1 hv1 hv
        have l4 := mok_lt ok2 a2 a2 a1 hv1 hv
        refine s_X12_leaves_20 (by omega) w _ _ _ (fun c => absurd c gle) (fun _ => by rw [i3]; exact n_in _ _) (fun _ _ => by rw [i2]; exact n_in _ _) (fun _ c => ?_) (fun _ _ => by rw [i0]; exact n_in _ _) (fun _ _ => by rw [i1]; exact n_in _ _) (fun _ c => ?_)
        · rw [i3, i2, t3, t2, w3, w2] at c
          have z : bk_lv D k = false := by cases q : bk_lv D k
                                           · rfl
                                           · exact absurd (hlv.mpr q) c
          rw [nI_1]
          have := ih w hw
          rw [pn_set_no (by rw [z]; rfl)] at this; exact this
        · rw [i3, i2, t3, t2, w3, w2] at c
          have z : bk_lv D k = true := hlv.mp c
          have z3 : bk_w D k 3 = 0 := by
            unfold bk_lv at z; rw [Bool.and_eq_true, decide_eq_true_eq] at z; exact z.1
          rw [i0, i1, t0, t1, w0, w1]
          refine (ct_X12_mostKept (by omega) ok1 hw.2 (hw.K hb hlw hlM hM (fun _ _ => rfl)) fo.rfl' a1 a1 a2 hv1 hv).mono ?_
          rintro r u1 ⟨rfl, u1h⟩
          have k1 := hw.st u1h
          refine ⟨_, rfl, s_X12_leaves_66 (by omega) u1 _ _ _ _ _ _ ?_⟩
          refine (ct_X12_mostKept (by omega) ok1 k1.2 (k1.K hb hlw hlM hM (fun _ _ => rfl)) fo.rfl' a2 a1 a2 hv1 hv).mono ?_
          rintro r u2 ⟨rfl, u2h⟩
          have k2 := k1.st u2h
          rw [mok_comm D _ (bk_w D k 1)]
          refine ⟨_, rfl, s_X12_leaves_79 (by omega) u2 _ _ _ _ _ _ _ (by rw [i3]; exact n_in _ _) ?_⟩
          rw [i3, t3]
          have k3 : KM τ (cuD D (oneP k)) (ax_ui u2 15 (16 + 4 * k + 3) 1) := by
            refine ⟨k2.1.ui (Or.inr rfl), (k2.2.set (16 + 4 * k + 3) 1).cong (fun j hj => ?_)⟩
            unfold cuD dset oneP
            by_cases q : j = 16 + 4 * k + 3
            · have e : (j - 16) / 4 = k := by omega
              rw [if_pos q, if_pos ⟨by omega, by omega, by omega, by rw [e]; exact decide_eq_true rfl⟩]
            · rw [if_neg q, if_neg]
              rintro ⟨q1, q2, q3, q4⟩
              have := of_decide_eq_true q4
              omega
          refine (ct_X12_mostKept (by omega) ok2 k3.2 (k3.K hb hlw hlM hM (fun h hh => cuD_out (by omega))) fo.rfl' a1 a1 a2 hv1 hv).mono ?_
          rintro r u3 ⟨rfl, u3h⟩
          have k4 := k3.st u3h
          have bk : ∀ t, KM τ (cuD D (oneP k)) t → KM τ D (ax_ui t 15 (16 + 4 * k + 3) 0) := fun t ht => by
            refine ⟨ht.1.ui (Or.inr rfl), (ht.2.set (16 + 4 * k + 3) 0).cong (fun j hj => ?_)⟩
            unfold dset
            by_cases q : j = 16 + 4 * k + 3
            · rw [if_pos q, q]; exact z3
            · rw [if_neg q]
              unfold cuD oneP
              rw [if_neg]
              rintro ⟨q1, q2, q3, q4⟩
              have := of_decide_eq_true q4
              omega
          refine ⟨_, rfl, s_X12_leaves_100 (by omega) u3 _ _ _ _ _ _ _ _ (fun _ => by rw [i3]; exact n_in _ _) (fun c => ?_) (fun c => ?_)⟩
          · have c2 := (n_lt _ _).mp c
            have y : lvs D (kpf E D dry ho L) v k = true := by unfold lvs lvq; rw [decide_eq_true c2]; rfl
            rw [nI_1, i3, t3, pn_set_up (p := fun w => bk_lv D w && lvs D (kpf E D dry ho L) v w) (by rw [y, z]; rfl)]
            exact ih _ (bk u3 k4)
          · have c2 : lvq D (kpf E D dry ho L) v k (bk_w D k 0) (bk_w D k 1) = false := decide_eq_false (fun q => c ((n_lt _ _).mpr q))
            refine (ct_X12_mostKept (by omega) ok2 k4.2 (k4.K hb hlw hlM hM (fun h hh => cuD_out (by omega))) fo.rfl' a2 a1 a2 hv1 hv).mono ?_
            rintro r u4 ⟨rfl, u4h⟩
            have k5 := k4.st u4h
            rw [mok_comm (cuD D (oneP k)) _ (bk_w D k 1)]
            refine ⟨_, rfl, s_X12_leaves_116 (by omega) u4 _ _ _ _ _ (by rw [i3]; exact n_in _ _) ?_⟩
            rw [nI_1, i3, t3]
            have e : (pn_set k (fun w => bk_lv D w && lvs D (kpf E D dry ho L) v w) ||| (if nI (mok D (kpf E D dry ho L) (bk_w D k 1) (bk_w D k 1) (bk_w D k 0) v) ≤ nI (mok (cuD D (oneP k)) (kpf E D dry ho L) (bk_w D k 1) (bk_w D k 1) (bk_w D k 0) v) then (0 : Int32) else ((1 : Int32) <<< (nI k &&& 31)))) = pn_set (k + 1) (fun w => bk_lv D w && lvs D (kpf E D dry ho L) v w) := by
              by_cases q : nI (mok D (kpf E D dry ho L) (bk_w D k 1) (bk_w D k 1) (bk_w D k 0) v) ≤ nI (mok (cuD D (oneP k)) (kpf E D dry ho L) (bk_w D k 1) (bk_w D k 1) (bk_w D k 0) v)
              · have q2 := (n_le _ _).mp q
                have y : lvs D (kpf E D dry ho L) v k = false := by unfold lvs; rw [c2, Bool.false_or]; unfold lvq; exact decide_eq_false (by omega)
                rw [if_pos q, or_z, pn_set_no]; rw [y]; exact Bool.and_false _
              · have q2 : mok (cuD D (oneP k)) (kpf E D dry ho L) (bk_w D k 1) (bk_w D k 1) (bk_w D k 0) v < mok D (kpf E D dry ho L) (bk_w D k 1) (bk_w D k 1) (bk_w D k 0) v := Nat.not_le.mp (fun r => q ((n_le _ _).mpr r))
                have y : lvs D (kpf E D dry ho L) v k = true := by unfold lvs; rw [c2, Bool.false_or]; unfold lvq; exact decide_eq_true q2
                rw [if_neg q, pn_set_up]; rw [y, z]; rfl
            rw [e]
            exact ih _ (bk u4 k5)
  · refine good.ask h (-1) ?_ ?_
    · refine ax_Ct.of (lv := [some (ax_r 0), some (ax_i a0), none, none, none]) (by decide +kernel) (fun ad => Nat.le_of_ble_eq_true rfl) (fun ad => rfl) ?_
      exact s_X11_leaves_0 (d := 59) (by omega) σ _ (fun _ => ⟨rfl, fo.rfl'⟩) (fun c1 c2 => absurd ⟨fun q => c1 (zC.mpr q), (in_R _ 1 999).mp c2⟩ g) (fun _ _ => ⟨rfl, fo.rfl'⟩)
    · refine ax_Ct.of (lv := [some (ax_r 0), some (ax_i a0), none, none, none, none, none, none]) (by decide +kernel) (fun ad => Nat.le_of_ble_eq_true rfl) (fun ad => rfl) ?_
      exact s_X12_leaves_0 (d := 59) (by omega) τ _ (fun _ => ⟨rfl, fo.rfl'⟩) (fun c1 c2 => absurd ⟨fun q => c1 (zM.mpr q), (in_R _ 1 999).mp c2⟩ g) (fun _ _ => ⟨rfl, fo.rfl'⟩)
/-! ===== STANDS ===== -/
def wkA (p : Nat → Bool) : Nat → Nat → Int32
  | 0, _ => -1
  | f + 1, k => if p k then nI k else wkA p f (k + 1)
def wkp (n : Nat) (D : Nat → Nat) (kp : Nat → Nat → Nat → Nat) (v h : Nat) : Bool := decide (¬ dk_bu n D kp h v = 0)
def weak (n : Nat) (D : Nat → Nat) (kp : Nat → Nat → Nat → Nat) (v : Nat) : Int32 := wkA (wkp n D kp v) n 0
theorem wkA_m1 {p : Nat → Bool} : ∀ {f k : Nat}, k + f ≤ 1000 → (wkA p f k = -1 ↔ ∀ i, k ≤ i → i < k + f → p i = false)
  | 0, k, _ => ⟨fun _ i h1 h2 => absurd h1 (by omega), fun _ => rfl⟩
  | f + 1, k, h => by
    rw [wkA]
    cases hp : p k
    · rw [if_neg (by decide), wkA_m1 (by omega)]
      constructor
      · intro q i h1 h2
        by_cases e : i = k
        · rw [e]; exact hp
        · exact q i (by omega) (by omega)
      · intro q i h1 h2; exact q i (by omega) (by omega)
    · rw [if_pos rfl]
      constructor
      · intro q; exact absurd q (n_m1 k)
      · intro q; have := q k (Nat.le_refl k) (by omega); rw [hp] at this; exact absurd this (by decide)
theorem ct_X11_weakestBy {d : Nat} (hd : 11 ≤ d) {σ w : ax_S} {live : Int32} {n : Nat} {D : Nat → Nat} {kp : Nat → Nat → Nat → Nat} (hok : dk_ok n D kp) (hC : sk_C σ live n (fun w => bk_w D w 0) (fun w => bk_w D w 1) (fun w => bk_w D w 2) (dk_lv D) D) (hK : sk_K σ n kp) (hw : fo scr w σ) {v : Nat} (hv1 : 1 ≤ v) (hv : v ≤ 999) :
    ax_Ct shC d mX11_weakestBy [ax_r 0, ax_i live, ax_i (nI v)] (fun r u => r = some (ax_i (weak n D kp v)) ∧ fo scr u σ) w := by
  obtain ⟨d, rfl⟩ : ∃ e, d = e + 1 := ⟨d - 1, by omega⟩
  have hn := hok.1
  refine ax_Ct.of (lv := [some (ax_r 0), some (ax_i live), some (ax_i (nI v)), none]) (by decide +kernel) (fun ad => Nat.le_of_ble_eq_true rfl) (fun ad => rfl) ?_
  refine s_X11_weakestBy_0 (by omega) w _ _ ?_
  have loop : ∀ f k u, k + f = n → fo scr u σ → ax_W shC (d + 1) mX11_weakestBy (fun r t => r = some (ax_i (wkA (wkp n D kp v) f k)) ∧ fo scr t σ) 2 [some (ax_r 0), some (ax_i live), some (ax_i (nI v)), some (ax_i (nI k))] [] u := by
    intro f
    induction f with
    | zero =>
      intro k u hk hu
      have e9 : u.1 5 9 = nI n := by rw [hu.1 5 9 (by unfold scr; omega)]; exact hC.1
      exact s_X11_weakestBy_2 (by omega) u _ _ _ (fun _ => ⟨rfl, hu⟩) (fun c => absurd (by rw [e9]; exact (n_le n k).mpr (by omega)) c)
    | succ f ih =>
      intro k u hk hu
      have e9 : u.1 5 9 = nI n := by rw [hu.1 5 9 (by unfold scr; omega)]; exact hC.1
      refine s_X11_weakestBy_2 (by omega) u _ _ _ (fun c => absurd (by rw [e9] at c; exact (n_le n k).mp c) (by omega)) (fun _ => ?_)
      refine (fl_C (by omega) hok hC hK hu (show k < n by omega) hv1 hv).mono ?_
      rintro r t ⟨rfl, t1, -, -⟩
      refine ⟨_, rfl, s_X11_weakestBy_23 (by omega) t _ _ _ _ (fun c => ?_) (fun c => ?_)⟩
      · rw [nI_1, wkA, if_neg (by unfold wkp; rw [decide_eq_true_eq]; exact not_not_intro c)]
        exact ih (k + 1) t (by omega) t1
      · rw [wkA, if_pos (by unfold wkp; rw [decide_eq_true_eq]; exact c)]
        exact ⟨rfl, t1⟩
  exact loop n 0 w (by omega) hw
theorem ct_X12_weakBy {d : Nat} (hd : 12 ≤ d) {τ w : ax_S} {n : Nat} {D : Nat → Nat} {kp : Nat → Nat → Nat → Nat} (hok : dk_ok n D kp) (h23 : τ.1 0 23 = nI n) (hm : mD τ D) (hK : mk_K τ n kp) (hw : fo scm w τ) {v : Nat} (hv1 : 1 ≤ v) (hv : v ≤ 999) :
    ax_Ct shM d mX12_weakBy [ax_r 0, ax_i (nI v)] (fun r u => r = some (ax_i (weak n D kp v)) ∧ fo scm u τ) w := by
  obtain ⟨d, rfl⟩ : ∃ e, d = e + 1 := ⟨d - 1, by omega⟩
  have hn := hok.1
  refine ax_Ct.of (lv := [some (ax_r 0), some (ax_i (nI v)), none]) (by decide +kernel) (fun ad => Nat.le_of_ble_eq_true rfl) (fun ad => rfl) ?_
  refine s_X12_weakBy_0 (by omega) w _ ?_
  have loop : ∀ f k u, k + f = n → fo scm u τ → ax_W shM (d + 1) mX12_weakBy (fun r t => r = some (ax_i (wkA (wkp n D kp v) f k)) ∧ fo scm t τ) 2 [some (ax_r 0), some (ax_i (nI v)), some (ax_i (nI k))] [] u := by
    intro f
    induction f with
    | zero =>
      intro k u hk hu
      have e9 : u.1 0 23 = nI n := by rw [hu.1 0 23 (by unfold scm; omega)]; exact h23
      exact s_X12_weakBy_2 (by omega) u _ _ (fun _ => ⟨rfl, hu⟩) (fun c => absurd (by rw [e9]; exact (n_le n k).mpr (by omega)) c)
    | succ f ih =>
      intro k u hk hu
      have e9 : u.1 0 23 = nI n := by rw [hu.1 0 23 (by unfold scm; omega)]; exact h23
      refine s_X12_weakBy_2 (by omega) u _ _ (fun c => absurd (by rw [e9] at c; exact (n_le n k).mp c) (by omega)) (fun _ => ?_)
      refine (fl_M (by omega) hok h23 hm hK hu (show k < n by omega) hv1 hv).mono ?_
      rintro r t ⟨rfl, t1⟩
      refine ⟨_, rfl, s_X12_weakBy_16 (by omega) t _ _ _ (fun c => ?_) (fun c => ?_)⟩
      · rw [nI_1, wkA, if_neg (by unfold wkp; rw [decide_eq_true_eq]; exact not_not_intro c)]
        exact ih (k + 1) t (by omega) t1
      · rw [wkA, if_pos (by unfold wkp; rw [decide_eq_true_eq]; exact c)]
        exact ⟨rfl, t1⟩
  exact loop n 0 w (by omega) hw
def sdA (q : Nat → Bool) : Nat → Nat → Nat
  | 0, v => v
  | f + 1, v => if q (v + 1) then v else sdA q f (v + 1)
theorem sdA_b {q : Nat → Bool} : ∀ {f v : Nat}, v ≤ sdA q f v ∧ sdA q f v ≤ v + f
  | 0, v => ⟨Nat.le_refl v, Nat.le_refl v⟩
  | f + 1, v => by
    rw [sdA]; split
    · omega
    · have := sdA_b (q := q) (f := f) (v := v + 1); omega
theorem sdA_skip {q : Nat → Bool} : ∀ {m f v : Nat}, (∀ i, v < i → i ≤ v + m → q i = false) → sdA q (m + f) v = sdA q f (v + m)
  | 0, f, v, _ => by rw [Nat.zero_add]; rfl
  | m + 1, f, v, h => by
    rw [show m + 1 + f = (m + f) + 1 by omega, sdA, if_neg (by rw [h (v + 1) (by omega) (by omega)]; decide), sdA_skip (fun i h1 h2 => h i (by omega) (by omega))]
    congr 1; omega
def wkq (n : Nat) (D : Nat → Nat) (kp : Nat → Nat → Nat → Nat) (v : Nat) : Bool := decide (¬ weak n D kp v = -1)
def stan (n : Nat) (D : Nat → Nat) (kp : Nat → Nat → Nat → Nat) : Nat := sdA (wkq n D kp) 999 0
theorem stan_le (n : Nat) (D : Nat → Nat) (kp : Nat → Nat → Nat → Nat) : stan n D kp ≤ 999 := by
  have := sdA_b (q := wkq n D kp) (f := 999) (v := 0); unfold stan; omega
theorem bu_small {n : Nat} {D : Nat → Nat} {kp : Nat → Nat → Nat → Nat} (hok : dk_ok n D kp) {h v : Nat} (hh : h < n) (hv1 : 1 ≤ v) (hD : ∀ k, k < n → v ≤ D k) : dk_bu n D kp h v = 0 := by
  unfold dk_bu
  have : pn_set n (fun k => decide (D k < (dk_run D kp h v).1 k)) = pn_set n (fun _ => false) := pn_set_cong (fun k hk => decide_eq_false (by have := dk_run_k hok hh hv1 hk; have := hD k hk; omega))
  rw [this]
  exact b_ext fun i hi => by rw [pn_set_bt _ n (by have := hok.1; omega) i hi, b_0, Bool.and_false]
theorem weak_small {n : Nat} {D : Nat → Nat} {kp : Nat → Nat → Nat → Nat} (hok : dk_ok n D kp) {v : Nat} (hv1 : 1 ≤ v) (hD : ∀ k, k < n → v ≤ D k) : wkq n D kp v = false := by
  have hn := hok.1
  refine decide_eq_false (not_not_intro ((wkA_m1 (by omega)).mpr (fun i _ hi => ?_)))
  exact decide_eq_false (not_not_intro (bu_small hok (by omega) hv1 hD))
def mnb (D : Nat → Nat) : Nat → Nat
  | 0 => 99
  | k + 1 => min (D k) (mnb D k)
theorem mnb_le (D : Nat → Nat) : ∀ k, mnb D k ≤ 99 ∧ ∀ i, i < k → mnb D k ≤ D i
  | 0 => ⟨Nat.le_refl _, fun i h => absurd h (by omega)⟩
  | k + 1 => by
    have := mnb_le D k
    rw [mnb]
    refine ⟨by omega, fun i hi => ?_⟩
    by_cases e : i = k
    · rw [e]; omega
    · have := this.2 i (by omega); omega
theorem ct_X0_leastBorne {d : Nat} (hd : 1 ≤ d) {σ : ax_S} {n : Nat} {E D : Nat → Nat} {dry : Nat} (hb : bk_ok n E D dry) (hC : bk_C σ n E D dry) :
    ax_Ct shC d mX0_leastBorne [ax_r 5] (fun r u => r = some (ax_i (nI (mnb D n))) ∧ u = σ) σ := by
  obtain ⟨d, rfl⟩ : ∃ e, d = e + 1 := ⟨d - 1, by omega⟩
  have hn := hb.2.1
  refine ax_Ct.of (lv := [some (ax_r 5), none, none]) (by decide +kernel) (fun ad => Nat.le_of_ble_eq_true rfl) (fun ad => rfl) ?_
  refine s_X0_leastBorne_0 (by omega) σ ?_
  have loop := lp_up (m := n) (P := fun k => ax_W shC (d + 1) mX0_leastBorne (fun r u => r = some (ax_i (nI (mnb D n))) ∧ u = σ) 5 [some (ax_r 5), some (ax_i (nI (mnb D k))), some (ax_i (nI k))] [] σ) ?_ ?_
  · exact loop 0 (Nat.zero_le _)
  · exact s_X0_leastBorne_5 (by omega) σ _ _ (fun _ => ⟨rfl, rfl⟩) (fun c => absurd (by rw [hC.1]; exact (n_le n n).mpr (Nat.le_refl n)) c) (fun c => absurd (by rw [hC.1]; exact (n_le n n).mpr (Nat.le_refl n)) c)
  · intro k hk ih
    have h8 := (hb.2.2.2.2.2.2.2.1 k hk).2.2.2.2.2.1
    have h9 := (mnb_le D k).1
    refine s_X0_leastBorne_5 (by omega) σ _ _ (fun c => absurd (by rw [hC.1] at c; exact (n_le n k).mp c) (by omega)) (fun _ => n_in _ _) (fun _ => ?_)
    rw [n_tn k, (hC.2.2.2.2.2.1 k hk).2.2.2.1, nI_1, n_min (mnb D k) (D k)]
    have : min (mnb D k) (D k) = mnb D (k + 1) := by rw [mnb]; omega
    rw [this]; exact ih
theorem stan_mnb {n : Nat} {D : Nat → Nat} {kp : Nat → Nat → Nat → Nat} (hok : dk_ok n D kp) : stan n D kp = sdA (wkq n D kp) (999 - mnb D n) (mnb D n) := by
  have h := mnb_le D n
  unfold stan
  have e : (999 : Nat) = mnb D n + (999 - mnb D n) := by omega
  have := sdA_skip (q := wkq n D kp) (m := mnb D n) (f := 999 - mnb D n) (v := 0) (fun i h1 h2 => weak_small hok (by omega) (fun k hk => by have := h.2 k hk; omega))
  rw [← e, Nat.zero_add] at this
  exact this
theorem ct_X11_greatestBorne {d : Nat} (hd : 12 ≤ d) {σ : ax_S} {n : Nat} {E D : Nat → Nat} {dry : Nat} {kp : Nat → Nat → Nat → Nat} (hb : bk_ok n E D dry) (hC : bk_C σ n E D dry) (hkp : ∀ h p c, kp h p c ≤ p) (hK : sk_K σ n kp) :
    ax_Ct shC d mX11_greatestBorne [ax_r 0] (fun r u => r = some (ax_i (nI (stan n D kp))) ∧ fo scr u σ) σ := by
  obtain ⟨d, rfl⟩ : ∃ e, d = e + 1 := ⟨d - 1, by omega⟩
  have hok := st_ok hb hkp
  have hm := (mnb_le D n).1
  refine ax_Ct.of (lv := [some (ax_r 0), none, none]) (by decide +kernel) (fun ad => Nat.le_of_ble_eq_true rfl) (fun ad => rfl) ?_
  refine s_X11_greatestBorne_0 (by omega) σ ?_
  refine (ct_live (by omega) hb hC).mono ?_
  rintro r u ⟨rfl, rfl⟩
  refine ⟨_, rfl, s_X11_greatestBorne_7 (by omega) u _ ?_⟩
  refine (ct_X0_leastBorne (by omega) hb hC).mono ?_
  rintro r u ⟨rfl, rfl⟩
  refine ⟨_, rfl, s_X11_greatestBorne_15 (by omega) u _ _ ?_⟩
  rw [nI_1, stan_mnb hok]
  have loop : ∀ f v w, v + f = 999 → fo scr w u → ax_W shC (d + 1) mX11_greatestBorne (fun r t => r = some (ax_i (nI (sdA (wkq n D kp) f v))) ∧ fo scr t u) 18 [some (ax_r 0), some (ax_i (pn_set (D 84) (bk_lv D))), some (ax_i (nI (v + 1)))] [] w := by
    intro f
    induction f with
    | zero =>
      intro v w hv hw
      refine s_X11_greatestBorne_18 (by omega) w _ _ (fun _ => ⟨?_, hw⟩) (fun c => absurd ((n_lt 999 (v + 1)).mpr (by omega)) c)
      rw [sdA]; have : v = 999 := by omega
      rw [this]; rfl
    | succ f ih =>
      intro v w hv hw
      refine s_X11_greatestBorne_18 (by omega) w _ _ (fun c => absurd ((n_lt 999 (v + 1)).mp c) (by omega)) (fun _ => ?_)
      refine (ct_X11_weakestBy (by omega) hok (st_C hb hC) hK hw (show 1 ≤ v + 1 by omega) (show v + 1 ≤ 999 by omega)).mono ?_
      rintro r t ⟨rfl, t1⟩
      refine ⟨_, rfl, s_X11_greatestBorne_31 (by omega) t _ _ _ (fun c => ?_) (fun c => ?_)⟩
      · rw [sdA, if_neg (by unfold wkq; rw [decide_eq_true_eq]; exact not_not_intro c), nI_1]
        exact ih (v + 1) t (by omega) t1
      · rw [sdA, if_pos (by unfold wkq; rw [decide_eq_true_eq]; exact c)]
        refine ⟨?_, t1⟩
        rw [show nI (v + 1) - 1 = nI v from n_sub (v + 1) 1]
  exact loop (999 - mnb D n) (mnb D n) u (by omega) fo.rfl'
theorem ct_X12_standsOf {d : Nat} (hd : 13 ≤ d) {τ w : ax_S} {n : Nat} {D : Nat → Nat} {kp : Nat → Nat → Nat → Nat} (hok : dk_ok n D kp) (h23 : τ.1 0 23 = nI n) (hm : mD τ D) (hK : mk_K τ n kp) (hw : fo scm w τ) :
    ax_Ct shM d mX12_standsOf [ax_r 0] (fun r u => r = some (ax_i (nI (stan n D kp))) ∧ fo scm u τ) w := by
  obtain ⟨d, rfl⟩ : ∃ e, d = e + 1 := ⟨d - 1, by omega⟩
  refine ax_Ct.of (lv := [some (ax_r 0), none]) (by decide +kernel) (fun ad => Nat.le_of_ble_eq_true rfl) (fun ad => rfl) ?_
  refine s_X12_standsOf_0 (by omega) w ?_
  have loop : ∀ f v w, v + f = 999 → fo scm w τ → ax_W shM (d + 1) mX12_standsOf (fun r t => r = some (ax_i (nI (sdA (wkq n D kp) f v))) ∧ fo scm t τ) 2 [some (ax_r 0), some (ax_i (nI v))] [] w := by
    intro f
    induction f with
    | zero =>
      intro v w hv hw
      exact s_X12_standsOf_2 (by omega) w _ (fun _ => ⟨rfl, hw⟩) (fun c => absurd ((n_le 999 v).mpr (by omega)) c)
    | succ f ih =>
      intro v w hv hw
      refine s_X12_standsOf_2 (by omega) w _ (fun c => absurd ((n_le 999 v).mp c) (by omega)) (fun _ => ?_)
      rw [nI_1]
      refine (ct_X12_weakBy (by omega) hok h23 hm hK hw (show 1 ≤ v + 1 by omega) (show v + 1 ≤ 999 by omega)).mono ?_
      rintro r t ⟨rfl, t1⟩
      refine ⟨_, rfl, s_X12_standsOf_16 (by omega) t _ _ (fun c => ?_) (fun c => ?_)⟩
      · rw [sdA, if_pos (by unfold wkq; rw [decide_eq_true_eq]; exact c)]
        exact ⟨rfl, t1⟩
      · rw [sdA, if_neg (by unfold wkq; rw [decide_eq_true_eq]; exact c), nI_1]
        exact ih (v + 1) t (by omega) t1
  exact loop 999 0 w (by omega) hw
theorem good_stands {j : Nat} {σ τ : ax_S} (h : RR j σ τ) (a0 : Int32) : good j mX11_stands mX12_stands [ax_i a0] σ τ := by
  obtain ⟨n, E, D, dry, kp, hb, hlg, hC, hM, hok, hK, hKm, -⟩ := h.stroke
  have hn := hb.2.1
  have hkp := hok.2.2.2.2
  have zC := hb_C hC.1 hn
  have zM := hb_M hM.1 hn
  have hs9 := stan_le n D kp
  by_cases g : ¬ n = 0 ∧ ∃ b : Bool, a0 = if b then 1 else 0
  · obtain ⟨hn0, w, rfl⟩ := g
    have q1 : ¬ σ.1 5 9 ≤ 0 := fun q => hn0 (zC.mp q)
    have q2 : ¬ τ.1 0 23 = 0 := fun q => hn0 (zM.mp q)
    have bw := (bit_C (if w then 1 else 0)).mpr ⟨w, rfl⟩
    have mw := (bit_M (if w then 1 else 0)).mpr ⟨w, rfl⟩
    have e9 : nI (stan n D kp) = (999 : Int32) ↔ stan n D kp = 999 := n_eq _ 999
    refine good.ask h (if w then (if stan n D kp = 999 then -1 else weak n D kp (stan n D kp + 1)) else nI (stan n D kp)) ?_ ?_
    · refine ax_Ct.of (lv := [some (ax_r 0), some (ax_i (if w then 1 else 0)), none]) (by decide +kernel) (fun ad => Nat.le_of_ble_eq_true rfl) (fun ad => rfl) ?_
      refine s_X11_stands_0 (d := 59) (by omega) σ _ (fun c => absurd q1 c) (fun _ _ => ?_) (fun _ c => absurd bw c)
      refine (ct_X11_greatestBorne (by omega) hb hC hkp hK).mono ?_
      rintro r u ⟨rfl, u1⟩
      refine ⟨_, rfl, s_X11_stands_20 (by omega) u _ _ (fun c1 c2 => ?_) (fun c1 c2 => ?_) (fun c1 => ?_)⟩
      · cases w
        · exact absurd rfl c1
        have c3 : ¬ stan n D kp = 999 := fun q => c2 (e9.mpr q)
        refine (ct_live (by omega) hb (hC.to u1.1 (fun c i h => by unfold scr at h; omega))).mono ?_
        rintro r t ⟨rfl, rfl⟩
        refine ⟨_, rfl, s_X11_stands_46 (by omega) t _ _ ?_⟩
        rw [nI_1]
        refine (ct_X11_weakestBy (by omega) hok (st_C hb hC) hK u1 (show 1 ≤ stan n D kp + 1 by omega) (show stan n D kp + 1 ≤ 999 by omega)).mono ?_
        rintro r t2 ⟨rfl, t2h⟩
        refine ⟨_, rfl, s_X11_stands_52 (by omega) t2 _ ⟨?_, t2h.mono scr_scC⟩⟩
        rw [if_pos rfl, if_neg c3]
      · cases w
        · exact absurd rfl c1
        have c3 : stan n D kp = 999 := e9.mp (Classical.not_not.mp c2)
        exact ⟨by rw [if_pos rfl, if_pos c3], u1.mono scr_scC⟩
      · cases w
        · exact ⟨rfl, u1.mono scr_scC⟩
        · exact absurd (show ¬ (1 : Int32) = 0 by decide) c1
    · refine ax_Ct.of (lv := [some (ax_r 0), some (ax_i (if w then 1 else 0)), none]) (by decide +kernel) (fun ad => Nat.le_of_ble_eq_true rfl) (fun ad => rfl) ?_
      refine s_X12_stands_0 (d := 59) (by omega) τ _ (fun c => absurd c q2) (fun _ _ => ?_) (fun _ c => absurd mw c)
      refine (ct_X12_standsOf (by omega) hok hM.1 hM.2.2.1 hKm fo.rfl').mono ?_
      rintro r u ⟨rfl, u1⟩
      refine ⟨_, rfl, s_X12_stands_22 (by omega) u _ _ (fun c1 c2 => ?_) (fun c1 c2 => ?_) (fun c1 => ?_)⟩
      · cases w
        · exact absurd rfl c1
        have c3 : ¬ stan n D kp = 999 := fun q => c2 (e9.mpr q)
        rw [nI_1]
        refine (ct_X12_weakBy (by omega) hok hM.1 hM.2.2.1 hKm u1 (show 1 ≤ stan n D kp + 1 by omega) (show stan n D kp + 1 ≤ 999 by omega)).mono ?_
        rintro r t2 ⟨rfl, t2h⟩
        refine ⟨_, rfl, s_X12_stands_49 (by omega) t2 _ ⟨?_, t2h.mono scm_scM⟩⟩
        rw [if_pos rfl, if_neg c3]
      · cases w
        · exact absurd rfl c1
        have c3 : stan n D kp = 999 := e9.mp (Classical.not_not.mp c2)
        exact ⟨by rw [if_pos rfl, if_pos c3], u1.mono scm_scM⟩
      · cases w
        · exact ⟨rfl, u1.mono scm_scM⟩
        · exact absurd (show ¬ (1 : Int32) = 0 by decide) c1
  · refine good.ask h (-1) ?_ ?_
    · refine ax_Ct.of (lv := [some (ax_r 0), some (ax_i a0), none]) (by decide +kernel) (fun ad => Nat.le_of_ble_eq_true rfl) (fun ad => rfl) ?_
      exact s_X11_stands_0 (d := 59) (by omega) σ _ (fun _ => ⟨rfl, fo.rfl'⟩) (fun c1 c2 => absurd ⟨fun q => c1 (zC.mpr q), (bit_C _).mp c2⟩ g) (fun _ _ => ⟨rfl, fo.rfl'⟩)
    · refine ax_Ct.of (lv := [some (ax_r 0), some (ax_i a0), none]) (by decide +kernel) (fun ad => Nat.le_of_ble_eq_true rfl) (fun ad => rfl) ?_
      exact s_X12_stands_0 (d := 59) (by omega) τ _ (fun _ => ⟨rfl, fo.rfl'⟩) (fun c1 c2 => absurd ⟨fun q => c1 (zM.mpr q), (bit_M _).mp c2⟩ g) (fun _ _ => ⟨rfl, fo.rfl'⟩)
