/-! ===== strokes asked again and again ===== -/
theorem sk_K.to {σ u : ax_S} {n : Nat} {kp : Nat → Nat → Nat → Nat} (h : sk_K σ n kp) (hf : fo scr u σ) : sk_K u n kp := by
  have e45 : u.1 4 5 = σ.1 4 5 := hf.1 4 5 (by unfold scr; omega)
  have e513 : u.1 5 13 = σ.1 5 13 := hf.1 5 13 (by unfold scr; omega)
  rcases h with ⟨h1, h2⟩ | ⟨h1, h2⟩
  · left; exact ⟨by rw [e45]; exact h1, by rw [e513]; exact h2⟩
  · right; exact ⟨by rw [e45]; exact h1, fun v h p c hv => h2 v h p c (hv.trans hf)⟩
theorem mk_K.to {τ w : ax_S} {n : Nat} {kp : Nat → Nat → Nat → Nat} (h : mk_K τ n kp) (hf : fo scm w τ) : mk_K w n kp := fun v h' p c hv => h v h' p c (hv.trans hf)
theorem fl_C {d : Nat} (hd : 10 ≤ d) {σ u : ax_S} {live : Int32} {n : Nat} {D : Nat → Nat} {kp : Nat → Nat → Nat → Nat} (hok : dk_ok n D kp) (hC : sk_C σ live n (fun w => bk_w D w 0) (fun w => bk_w D w 1) (fun w => bk_w D w 2) (dk_lv D) D) (hK : sk_K σ n kp) (hu : fo scr u σ) {h v : Nat} (hh : h < n) (hv1 : 1 ≤ v) (hv : v ≤ 999) :
    ax_Ct shC d mX8_fall [ax_r 6, ax_i live, ax_i (nI h), ax_i (nI v)] (fun r w => r = some (ax_i (dk_bu n D kp h v)) ∧ fo scr w σ ∧ (∀ k, k < 8 → w.1 32 k = nI ((dk_run D kp h v).1 k)) ∧ fb_sm (dk_run D kp h v).1 n ≤ v) u :=
  (ct_fall_D hd hok (hC.to hu) (hK.to hu) hh hv1 hv).mono (fun r w hw => ⟨hw.1, hw.2.1.trans hu, hw.2.2.1, by have := hw.2.2.2.2; omega⟩)
theorem fl_M {d : Nat} (hd : 11 ≤ d) {τ w : ax_S} {n : Nat} {D : Nat → Nat} {kp : Nat → Nat → Nat → Nat} (hok : dk_ok n D kp) (h23 : τ.1 0 23 = nI n) (hm : mD τ D) (hK : mk_K τ n kp) (hw : fo scm w τ) {h v : Nat} (hh : h < n) (hv1 : 1 ≤ v) (hv : v ≤ 999) :
    ax_Ct shM d mX12_burningBy [ax_r 0, ax_i (nI h), ax_i (nI v)] (fun r u => r = some (ax_i (dk_bu n D kp h v)) ∧ fo scm u τ) w :=
  (ct_X12_burningBy hd hok (by rw [hw.1 0 23 (by unfold scm; omega)]; exact h23) (hm.to hw scm15) (hK.to hw) hh hv1 hv).mono (fun r u hu => ⟨hu.1, hu.2.1.trans hw⟩)
theorem kf_M {d : Nat} (hd : 11 ≤ d) {τ w : ax_S} {n : Nat} {D : Nat → Nat} {kp : Nat → Nat → Nat → Nat} (hok : dk_ok n D kp) (hm : mD τ D) (hK : mk_K τ n kp) (hw : fo scm w τ) {h v k : Nat} (hh : h < n) (hv1 : 1 ≤ v) (hv : v ≤ 999) (hk : k < n) :
    ax_Ct shM d mX12_keepsOf [ax_r 0, ax_i (nI h), ax_i (nI v), ax_i (nI k)] (fun r u => r = some (ax_i (nI ((dk_run D kp h v).1 k))) ∧ fo scm u τ) w :=
  (ct_X12_keepsOf hd hok (hm.to hw scm15) (hK.to hw) hh hv1 hv hk).mono (fun r u hu => ⟨hu.1, hu.2.trans hw⟩)
/-! ===== odds, premium ===== -/
def hts (E : Nat → Nat) (n : Nat) : Nat := fb_sm (fun h => E (4 * h + 1)) n
theorem hts_b {n : Nat} {E D : Nat → Nat} {dry : Nat} (hb : bk_ok n E D dry) : n ≤ hts E n ∧ hts E n ≤ 72 := by
  have h8 := hb.2.2.2.2.2.2.2.1
  have hn := hb.2.1
  constructor
  · have := fb_sm_le (f := fun _ => 1) (g := fun h => E (4 * h + 1)) (n := n) (fun k hk => (h8 k hk).2.1)
    rw [fb_sm_const] at this; unfold hts; omega
  · have := fb_sm_bound (f := fun h => E (4 * h + 1)) (c := 9) (n := n) (fun k hk => (h8 k hk).2.2.1)
    unfold hts; omega
theorem ct_X0_heights {d : Nat} (hd : 1 ≤ d) {σ : ax_S} {n : Nat} {E D : Nat → Nat} {dry : Nat} (hb : bk_ok n E D dry) (hC : bk_C σ n E D dry) :
    ax_Ct shC d mX0_heights [ax_r 5] (fun r u => r = some (ax_i (nI (hts E n))) ∧ u = σ) σ := by
  obtain ⟨d, rfl⟩ : ∃ e, d = e + 1 := ⟨d - 1, by omega⟩
  have hn := hb.2.1
  refine ax_Ct.of (lv := [some (ax_r 5), none, none]) (by decide +kernel) (fun ad => Nat.le_of_ble_eq_true rfl) (fun ad => rfl) ?_
  refine s_X0_heights_0 (by omega) σ ?_
  have loop := lp_up (m := n) (P := fun k => ax_W shC (d + 1) mX0_heights (fun r u => r = some (ax_i (nI (hts E n))) ∧ u = σ) 4 [some (ax_r 5), some (ax_i (nI (hts E k))), some (ax_i (nI k))] [] σ) ?_ ?_
  · exact loop 0 (by omega)
  · have g : σ.1 5 9 ≤ nI n := by rw [hC.1]; exact (n_le _ _).mpr (Nat.le_refl _)
    refine s_X0_heights_4 (by omega) σ _ _ ?_ ?_ ?_ <;> intros <;> try contradiction
    exact ⟨rfl, rfl⟩
  · intro k hk ih
    have g : ¬ σ.1 5 9 ≤ nI k := by rw [hC.1]; exact fun z => absurd ((n_le _ _).mp z) (by omega)
    refine s_X0_heights_4 (by omega) σ _ _ ?_ ?_ ?_ <;> intros <;> try contradiction
    · exact n_in k 8
    · rw [n_tn k, (hC.2.2.2.2.2.1 k hk).2.1, n_add, nI_1]; exact ih
theorem ct_X12_heights {d : Nat} (hd : 2 ≤ d) {τ : ax_S} {n : Nat} {E D : Nat → Nat} {dry : Nat} (hb : bk_ok n E D dry) (hM : bk_M τ n E D dry) :
    ax_Ct shM d mX12_heights [ax_r 0] (fun r u => r = some (ax_i (nI (hts E n))) ∧ u = τ) τ := by
  obtain ⟨d, rfl⟩ : ∃ e, d = e + 1 := ⟨d - 1, by omega⟩
  have hn := hb.2.1
  refine ax_Ct.of (lv := [some (ax_r 0), none, none]) (by decide +kernel) (fun ad => Nat.le_of_ble_eq_true rfl) (fun ad => rfl) ?_
  refine s_X12_heights_0 (by omega) τ ?_
  have loop := lp_up (m := n) (P := fun k => ax_W shM (d + 1) mX12_heights (fun r u => r = some (ax_i (nI (hts E n))) ∧ u = τ) 4 [some (ax_r 0), some (ax_i (nI (hts E k))), some (ax_i (nI k))] [] τ) ?_ ?_
  · exact loop 0 (by omega)
  · have g : τ.1 0 23 ≤ nI n := by rw [hM.1]; exact (n_le _ _).mpr (Nat.le_refl _)
    refine s_X12_heights_4 (by omega) τ _ _ ?_ ?_ ?_ <;> intros <;> try contradiction
    exact ⟨rfl, rfl⟩
  · intro k hk ih
    have g : ¬ τ.1 0 23 ≤ nI k := by rw [hM.1]; exact fun z => absurd ((n_le _ _).mp z) (by omega)
    have i1 : (4 : Int32) * nI k + 1 = nI (4 * k + 1) := n_h k 1
    refine s_X12_heights_4 (by omega) τ _ _ ?_ ?_ ?_ <;> intros <;> try contradiction
    · rw [i1]; exact n_in _ _
    · rw [i1, n_tn _, hM.2.2.2 k 1 hk (by omega), n_add, nI_1]; exact ih
/-- the odds' parts -/
def odp (n : Nat) (E D : Nat → Nat) (kp : Nat → Nat → Nat → Nat) (x v : Nat) (o : Nat) : Nat := if bt (dk_bu n D kp o v) x then 1000000000 * E (4 * o + 1) / hts E n else 0
theorem odp_b (n : Nat) (E D : Nat → Nat) (kp : Nat → Nat → Nat → Nat) (x v : Nat) : ∀ k, fb_sm (odp n E D kp x v) k * hts E n ≤ 1000000000 * fb_sm (fun h => E (4 * h + 1)) k
  | 0 => by simp [fb_sm]
  | k + 1 => by
    have ih := odp_b n E D kp x v k
    rw [fb_sm_succ, fb_sm_succ, Nat.add_mul, Nat.mul_add]
    have : odp n E D kp x v k * hts E n ≤ 1000000000 * E (4 * k + 1) := by
      unfold odp; split
      · exact Nat.div_mul_le_self _ _
      · omega
    omega
theorem odp_le {n : Nat} {E D : Nat → Nat} {dry : Nat} (hb : bk_ok n E D dry) (kp : Nat → Nat → Nat → Nat) (x v : Nat) (h0 : 0 < n) {k : Nat} (hk : k ≤ n) : fb_sm (odp n E D kp x v) k ≤ 1000000000 := by
  have h1 := odp_b n E D kp x v n
  have h2 := hts_b hb
  have h3 : fb_sm (odp n E D kp x v) n ≤ 1000000000 := Nat.le_of_mul_le_mul_right h1 (by omega)
  have h4 := fb_sm_mono (odp n E D kp x v) k (n - k)
  rw [show k + (n - k) = n by omega] at h4
  omega
theorem ct_X11_burnParts {d : Nat} (hd : 12 ≤ d) {σ : ax_S} {n : Nat} {E D : Nat → Nat} {dry : Nat} {kp : Nat → Nat → Nat → Nat} {x v : Nat} (hb : bk_ok n E D dry) (hC : bk_C σ n E D dry) (hK : sk_K σ n kp) (hkp : ∀ h p c, kp h p c ≤ p) (hx : x < n) (hv1 : 1 ≤ v) (hv : v ≤ 999) :
    ax_Ct shC d mX11_burnParts [ax_r 0, ax_i (nI x), ax_i (nI v)] (fun r u => r = some (ax_l (lN (fb_sm (odp n E D kp x v) n))) ∧ fo scr u σ) σ := by
  obtain ⟨d, rfl⟩ : ∃ e, d = e + 1 := ⟨d - 1, by omega⟩
  have hn := hb.2.1
  have hhb := hts_b hb
  refine ax_Ct.of (lv := [some (ax_r 0), some (ax_i (nI x)), some (ax_i (nI v)), none, none, none, none, none]) (by decide +kernel) (fun ad => Nat.le_of_ble_eq_true rfl) (fun ad => rfl) ?_
  refine s_X11_burnParts_0 (by omega) σ _ _ ?_
  refine (ct_live (by omega) hb hC).mono (fun r u hu => ⟨_, hu.1, s_X11_burnParts_7 (by omega) u _ _ _ ?_⟩)
  obtain ⟨-, rfl⟩ := hu
  refine (ct_X0_heights (by omega) hb hC).mono (fun r u' hu => ⟨_, hu.1, s_X11_burnParts_15 (by omega) u' _ _ _ _ ?_⟩)
  obtain ⟨-, rfl⟩ := hu
  have hg : ¬ nI (hts E n) ≤ 0 := fun z => absurd ((n_le (hts E n) 0).mp z) (by omega)
  have loop := lp_up (m := n) (P := fun k => ∀ w, fo scr w u' → ax_W shC (d + 1) mX11_burnParts (fun r w => r = some (ax_l (lN (fb_sm (odp n E D kp x v) n))) ∧ fo scr w u') 23 [some (ax_r 0), some (ax_i (nI x)), some (ax_i (nI v)), some (ax_i (pn_set (D 84) (bk_lv D))), some (ax_i (nI (hts E n))), some (ax_l (lN (fb_sm (odp n E D kp x v) k))), none, some (ax_i (nI k))] [] w) ?_ ?_
  · exact loop 0 (by omega) u' fo.rfl'
  · intro w hw
    have g : w.1 5 9 ≤ nI n := by rw [hw.1 5 9 (by unfold scr; omega), hC.1]; exact (n_le _ _).mpr (Nat.le_refl _)
    refine s_X11_burnParts_23 (by omega) w _ _ _ _ _ _ ?_ ?_ ?_ <;> intros <;> try contradiction
    exact ⟨rfl, hw⟩
  · intro k hk ih w hw
    have g : ¬ w.1 5 9 ≤ nI k := by rw [hw.1 5 9 (by unfold scr; omega), hC.1]; exact fun z => absurd ((n_le _ _).mp z) (by omega)
    refine s_X11_burnParts_23 (by omega) w _ _ _ _ _ _ ?_ ?_ ?_ <;> intros <;> try contradiction
    refine (fl_C (by omega) (st_ok hb hkp) (st_C hb hC) hK hw hk hv1 hv).mono ?_
    rintro r t ⟨rfl, ht, -⟩
    have hbit := pn_bitOf1 (dk_bu n D kp k v) x (by omega)
    refine ⟨_, rfl, s_X11_burnParts_51 (by omega) t _ _ _ _ _ _ _ (fun z => ?_) (fun _ => n_in k 8) (fun _ => ?_) (fun z => ?_)⟩
    · rw [nI_1]
      have e : odp n E D kp x v k = 0 := if_neg (fun q => z (hbit.mpr q))
      have := ih t ht
      rw [fb_sm_succ, e] at this; exact this
    · rw [nI_l (by omega)]; exact fun q => absurd ((pk_lEQ (b := 0) (by omega) (by omega)).mp q) (by omega)
    · have e : odp n E D kp x v k = 1000000000 * E (4 * k + 1) / hts E n := if_pos (hbit.mp (Classical.not_not.mp z))
      have b9 := (hb.2.2.2.2.2.2.2.1 k hk).2.2.1
      rw [nI_1, n_tn k, ht.1 24 k (by unfold scr; omega), (hC.2.2.2.2.2.1 k hk).2.1, nI_l (by omega), nI_l (by omega), show (1000000000 : Int64) = lN 1000000000 from rfl, lN_mul, pk_lDiv (by omega) (by omega) (by omega), lN_add, ← e]
      have := ih t ht
      rw [fb_sm_succ] at this; exact this
theorem ct_X12_oddsOf {d : Nat} (hd : 13 ≤ d) {τ : ax_S} {n : Nat} {E D : Nat → Nat} {dry : Nat} {kp : Nat → Nat → Nat → Nat} {x v : Nat} (hb : bk_ok n E D dry) (hM : bk_M τ n E D dry) (hK : mk_K τ n kp) (hkp : ∀ h p c, kp h p c ≤ p) (hx : x < n) (hv1 : 1 ≤ v) (hv : v ≤ 999) :
    ax_Ct shM d mX12_oddsOf [ax_r 0, ax_i (nI x), ax_i (nI v)] (fun r u => r = some (ax_i (nI (fb_sm (odp n E D kp x v) n))) ∧ fo scm u τ) τ := by
  obtain ⟨d, rfl⟩ : ∃ e, d = e + 1 := ⟨d - 1, by omega⟩
  have hn := hb.2.1
  have hhb := hts_b hb
  refine ax_Ct.of (lv := [some (ax_r 0), some (ax_i (nI x)), some (ax_i (nI v)), none, none, none]) (by decide +kernel) (fun ad => Nat.le_of_ble_eq_true rfl) (fun ad => rfl) ?_
  refine s_X12_oddsOf_0 (by omega) τ _ _ ?_
  have loop := lp_up (m := n) (P := fun k => ∀ w, fo scm w τ → ax_W shM (d + 1) mX12_oddsOf (fun r w => r = some (ax_i (nI (fb_sm (odp n E D kp x v) n))) ∧ fo scm w τ) 5 [some (ax_r 0), some (ax_i (nI x)), some (ax_i (nI v)), some (ax_l (lN (fb_sm (odp n E D kp x v) k))), none, some (ax_i (nI k))] [] w) ?_ ?_
  · exact loop 0 (by omega) τ fo.rfl'
  · intro w hw
    have g : w.1 0 23 ≤ nI n := by rw [hw.1 0 23 (by unfold scm; omega), hM.1]; exact (n_le _ _).mpr (Nat.le_refl _)
    refine s_X12_oddsOf_5 (by omega) w _ _ _ _ ?_ ?_ <;> intros <;> try contradiction
    exact ⟨by rw [lN_i], hw⟩
  · intro k hk ih w hw
    have g : ¬ w.1 0 23 ≤ nI k := by rw [hw.1 0 23 (by unfold scm; omega), hM.1]; exact fun z => absurd ((n_le _ _).mp z) (by omega)
    refine s_X12_oddsOf_5 (by omega) w _ _ _ _ ?_ ?_ <;> intros <;> try contradiction
    refine (fl_M (by omega) (st_ok hb hkp) hM.1 hM.2.2.1 hK hw hk hv1 hv).mono ?_
    rintro r t ⟨rfl, ht⟩
    have hbit := pn_bitOf1 (dk_bu n D kp k v) x (by omega)
    have i1 : (4 : Int32) * nI k + 1 = nI (4 * k + 1) := n_h k 1
    refine ⟨_, rfl, s_X12_oddsOf_22 (by omega) t _ _ _ _ _ (fun z => ?_) (fun _ => by rw [i1]; exact n_in _ _) (fun z => ?_)⟩
    · rw [nI_1]
      have e : odp n E D kp x v k = 0 := if_neg (fun q => (Classical.not_not.mp z) (hbit.mpr q))
      have := ih t ht
      rw [fb_sm_succ, e] at this
      rw [show (0 : Int64) = lN 0 from rfl, lN_add]; exact this
    · have e : odp n E D kp x v k = 1000000000 * E (4 * k + 1) / hts E n := if_pos (hbit.mp (Classical.not_not.mp z))
      have b9 := (hb.2.2.2.2.2.2.2.1 k hk).2.2.1
      have hMt : bk_M t n E D dry := hM.to ht.1 (fun c i h => by unfold scm at h; omega)
      refine (ct_X12_heights (by omega) hb hMt).mono (fun r t' hu => ⟨_, hu.1, ?_⟩)
      obtain ⟨-, rfl⟩ := hu
      refine s_X12_oddsOf_45 (by omega) t' _ _ _ _ _ _ ?_ ?_
      · rw [nI_l (by omega)]; exact fun q => absurd ((pk_lEQ (b := 0) (by omega) (by omega)).mp q) (by omega)
      · rw [nI_1, i1, n_tn _, hMt.2.2.2 k 1 hk (by omega), nI_l (by omega), nI_l (by omega), show (1000000000 : Int64) = lN 1000000000 from rfl, lN_mul, pk_lDiv (by omega) (by omega) (by omega), lN_add, ← e]
        have := ih t' ht
        rw [fb_sm_succ] at this; exact this
theorem good_odds {j : Nat} {σ τ : ax_S} (h : RR j σ τ) (a0 a1 : Int32) : good j mX11_odds mX12_odds [ax_i a0, ax_i a1] σ τ := by
  obtain ⟨n, E, D, dry, kp, hb, hlg, hC, hM, hok, hK, hKm, -⟩ := h.stroke
  have hn := hb.2.1
  have hkp := hok.2.2.2.2
  have e9 : σ.1 5 9 = nI n := hC.1
  have e23 : τ.1 0 23 = nI n := hM.1
  by_cases g : (∃ x, x < n ∧ a0 = nI x) ∧ ∃ k, 1 ≤ k ∧ k ≤ 999 ∧ a1 = nI k
  · obtain ⟨⟨x, hx, rfl⟩, v, hv1, hv, rfl⟩ := g
    have q1 : ¬ nI x < 0 ∧ ¬ σ.1 5 9 ≤ nI x := by rw [e9]; exact (is_H (nI x) n).mpr ⟨x, hx, rfl⟩
    have q2 : ¬ nI x < (0 : Int32) ∧ ¬ τ.1 0 23 - 1 < nI x := by rw [e23]; exact (is_Hm (nI x) n).mpr ⟨x, hx, rfl⟩
    have q3 : ¬ nI v < (1 : Int32) ∧ ¬ (999 : Int32) < nI v := (in_R (nI v) 1 999).mpr ⟨v, hv1, hv, rfl⟩
    refine good.ask h (nI (fb_sm (odp n E D kp x v) n)) ?_ ?_
    · refine ax_Ct.of (lv := [some (ax_r 0), some (ax_i (nI x)), some (ax_i (nI v))]) (by decide +kernel) (fun ad => Nat.le_of_ble_eq_true rfl) (fun ad => rfl) ?_
      refine s_X11_odds_0 (d := 59) (by omega) σ _ _ ?_ ?_ ?_ <;> intros <;> try contradiction
      refine (ct_X11_burnParts (by omega) hb hC hK hkp hx hv1 hv).mono (fun r u hu => ⟨_, hu.1, s_X11_odds_21 (by omega) u _ ⟨by rw [lN_i], hu.2.mono scr_scC⟩⟩)
    · refine ax_Ct.of (lv := [some (ax_r 0), some (ax_i (nI x)), some (ax_i (nI v))]) (by decide +kernel) (fun ad => Nat.le_of_ble_eq_true rfl) (fun ad => rfl) ?_
      refine s_X12_odds_0 (d := 59) (by omega) τ _ _ ?_ ?_ ?_ <;> intros <;> try contradiction
      refine (ct_X12_oddsOf (by omega) hb hM hKm hkp hx hv1 hv).mono (fun r u hu => ⟨_, hu.1, s_X12_odds_21 (by omega) u _ ⟨rfl, hu.2.mono scm_scM⟩⟩)
  · refine good.ask h (-1) ?_ ?_
    · refine ax_Ct.of (lv := [some (ax_r 0), some (ax_i a0), some (ax_i a1)]) (by decide +kernel) (fun ad => Nat.le_of_ble_eq_true rfl) (fun ad => rfl) ?_
      exact s_X11_odds_0 (d := 59) (by omega) σ _ _ (fun _ => ⟨rfl, fo.rfl'⟩) (fun _ _ => ⟨rfl, fo.rfl'⟩) (fun c1 c2 => absurd ⟨(is_H _ n).mp (by rw [← e9]; exact c1), (in_R _ 1 999).mp c2⟩ g)
    · refine ax_Ct.of (lv := [some (ax_r 0), some (ax_i a0), some (ax_i a1)]) (by decide +kernel) (fun ad => Nat.le_of_ble_eq_true rfl) (fun ad => rfl) ?_
      exact s_X12_odds_0 (d := 59) (by omega) τ _ _ (fun _ => ⟨rfl, fo.rfl'⟩) (fun _ _ => ⟨rfl, fo.rfl'⟩) (fun c1 c2 => absurd ⟨(is_Hm _ n).mp (by rw [← e23]; exact c1), (in_R _ 1 999).mp c2⟩ g)
theorem good_premium {j : Nat} {σ τ : ax_S} (h : RR j σ τ) (a0 a1 a2 : Int32) : good j mX11_premium mX12_premium [ax_i a0, ax_i a1, ax_i a2] σ τ := by
  obtain ⟨n, E, D, dry, kp, hb, hlg, hC, hM, hok, hK, hKm, -⟩ := h.stroke
  have hn := hb.2.1
  have hkp := hok.2.2.2.2
  have e9 : σ.1 5 9 = nI n := hC.1
  have e23 : τ.1 0 23 = nI n := hM.1
  by_cases g : (∃ x, x < n ∧ a0 = nI x) ∧ (∃ k, 1 ≤ k ∧ k ≤ 999 ∧ a1 = nI k) ∧ ∃ k, 1 ≤ k ∧ k ≤ 999 ∧ a2 = nI k
  · obtain ⟨⟨x, hx, rfl⟩, ⟨v, hv1, hv, rfl⟩, c, hc1, hc, rfl⟩ := g
    have q1 : ¬ nI x < 0 ∧ ¬ σ.1 5 9 ≤ nI x := by rw [e9]; exact (is_H (nI x) n).mpr ⟨x, hx, rfl⟩
    have q2 : ¬ nI x < (0 : Int32) ∧ ¬ τ.1 0 23 - 1 < nI x := by rw [e23]; exact (is_Hm (nI x) n).mpr ⟨x, hx, rfl⟩
    have q3 : ¬ nI v < (1 : Int32) ∧ ¬ (999 : Int32) < nI v := (in_R (nI v) 1 999).mpr ⟨v, hv1, hv, rfl⟩
    have q4 : ¬ nI c < (1 : Int32) ∧ ¬ (999 : Int32) < nI c := (in_R (nI c) 1 999).mpr ⟨c, hc1, hc, rfl⟩
    have q5 : ¬ nI c < (1 : Int32) := q4.1
    have q6 : nI c ≤ (999 : Int32) := (n_le c 999).mpr hc
    have ho := odp_le hb kp x v (by omega) (Nat.le_refl n)
    refine good.ask h (Int64.toInt32 ((lN (fb_sm (odp n E D kp x v) n) * lN c + 1000000000 - 1) / 1000000000)) ?_ ?_
    · refine ax_Ct.of (lv := [some (ax_r 0), some (ax_i (nI x)), some (ax_i (nI v)), some (ax_i (nI c))]) (by decide +kernel) (fun ad => Nat.le_of_ble_eq_true rfl) (fun ad => rfl) ?_
      refine s_X11_premium_0 (d := 59) (by omega) σ _ _ _ ?_ ?_ ?_ ?_ ?_ <;> intros <;> try contradiction
      refine (ct_X11_burnParts (by omega) hb hC hK hkp hx hv1 hv).mono (fun r u hu => ⟨_, hu.1, s_X11_premium_35 (by omega) u _ _ ⟨by rw [nI_l (by omega)], hu.2.mono scr_scC⟩⟩)
    · refine ax_Ct.of (lv := [some (ax_r 0), some (ax_i (nI x)), some (ax_i (nI v)), some (ax_i (nI c))]) (by decide +kernel) (fun ad => Nat.le_of_ble_eq_true rfl) (fun ad => rfl) ?_
      refine s_X12_premium_0 (d := 59) (by omega) τ _ _ _ ?_ ?_ ?_ ?_ <;> intros <;> try contradiction
      refine (ct_X12_oddsOf (by omega) hb hM hKm hkp hx hv1 hv).mono (fun r u hu => ⟨_, hu.1, s_X12_premium_32 (by omega) u _ _ ⟨by rw [nI_l (by omega), nI_l (by omega)], hu.2.mono scm_scM⟩⟩)
  · refine good.ask h (-1) ?_ ?_
    · refine ax_Ct.of (lv := [some (ax_r 0), some (ax_i a0), some (ax_i a1), some (ax_i a2)]) (by decide +kernel) (fun ad => Nat.le_of_ble_eq_true rfl) (fun ad => rfl) ?_
      exact s_X11_premium_0 (d := 59) (by omega) σ _ _ _ (fun _ => ⟨rfl, fo.rfl'⟩) (fun _ _ => ⟨rfl, fo.rfl'⟩) (fun _ _ _ => ⟨rfl, fo.rfl'⟩) (fun c1 c2 c3 c4 => absurd ⟨(is_H _ n).mp (by rw [← e9]; exact c1), (in_R _ 1 999).mp c2, (in_R _ 1 999).mp ⟨c3, fun q => (fa_of_lt q).2.1 c4⟩⟩ g) (fun _ _ _ _ => ⟨rfl, fo.rfl'⟩)
    · refine ax_Ct.of (lv := [some (ax_r 0), some (ax_i a0), some (ax_i a1), some (ax_i a2)]) (by decide +kernel) (fun ad => Nat.le_of_ble_eq_true rfl) (fun ad => rfl) ?_
      exact s_X12_premium_0 (d := 59) (by omega) τ _ _ _ (fun _ => ⟨rfl, fo.rfl'⟩) (fun _ _ => ⟨rfl, fo.rfl'⟩) (fun _ _ _ => ⟨rfl, fo.rfl'⟩) (fun c1 c2 c3 => absurd ⟨(is_Hm _ n).mp (by rw [← e23]; exact c1), (in_R _ 1 999).mp c2, (in_R _ 1 999).mp c3⟩ g)
