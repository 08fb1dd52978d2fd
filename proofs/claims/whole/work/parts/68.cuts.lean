/-! ===== belts with some wires cut ===== -/
def cuD (D : Nat → Nat) (p : Nat → Bool) (j : Nat) : Nat := if 16 ≤ j ∧ j < 84 ∧ (j - 16) % 4 = 3 ∧ p ((j - 16) / 4) = true then 1 else D j
theorem cuD_out {D : Nat → Nat} {p : Nat → Bool} {j : Nat} (h : j < 16 ∨ 84 ≤ j) : cuD D p j = D j := if_neg (by omega)
theorem cuD_w (D : Nat → Nat) (p : Nat → Bool) (w : Nat) {q : Nat} (hq : q < 3) : bk_w (cuD D p) w q = bk_w D w q := if_neg (fun z => by have := z.2.2.1; omega)
theorem cuD_3 (D : Nat → Nat) (p : Nat → Bool) {w : Nat} (hw : w < 17) : bk_w (cuD D p) w 3 = if p w then 1 else bk_w D w 3 := by
  show cuD D p (16 + 4 * w + 3) = _
  unfold cuD
  have e : (16 + 4 * w + 3 - 16) / 4 = w := by omega
  rw [e]
  cases hp : p w
  · rw [if_neg (fun z => by simp at z), if_neg (by decide)]
  · rw [if_pos ⟨by omega, by omega, by omega, rfl⟩, if_pos rfl]
theorem cu_lv {D : Nat → Nat} (h84 : D 84 ≤ 17) (p : Nat → Bool) (w : Nat) : dk_lv (cuD D p) w = (dk_lv D w && !p w) := by
  unfold dk_lv bk_lv
  rw [cuD_out (by omega : (84 : Nat) < 16 ∨ 84 ≤ 84)]
  by_cases z : w < D 84
  · rw [cuD_3 D p (by omega), cuD_w D p w (by omega)]
    cases p w
    · simp
    · simp
  · simp [z]
theorem cu_ok {n : Nat} {E D : Nat → Nat} {dry : Nat} (hb : bk_ok n E D dry) (p : Nat → Bool) {kp : Nat → Nat → Nat → Nat} (hkp : ∀ h p c, kp h p c ≤ p) : dk_ok n (cuD D p) kp := by
  obtain ⟨h1, h2, h3, h4, h5, h6, h7, h8, h9⟩ := hb
  refine ⟨h2, by rw [cuD_out (by omega)]; omega, fun w hw => ?_, fun h hh => by rw [cuD_out (by omega)]; exact (h8 h hh).2.2.2.2.2.1, hkp⟩
  rw [cuD_out (by omega)] at hw
  obtain ⟨w0, w1, w2, w3, w4⟩ := h9 w hw
  rw [cuD_w D p w (by omega), cuD_w D p w (by omega), cuD_w D p w (by omega), cuD_3 D p (by omega)]
  refine ⟨w0, w1, w2, w3, ?_⟩
  split <;> omega
theorem cu_sk {u : ax_S} {n : Nat} {E D : Nat → Nat} {dry : Nat} (hb : bk_ok n E D dry) (hC : bk_C u n E D dry) (p : Nat → Bool) {live : Int32} (hl : ∀ i, i < 32 → bt live i = (dk_lv D i && !p i)) : sk_C u live n (fun w => bk_w (cuD D p) w 0) (fun w => bk_w (cuD D p) w 1) (fun w => bk_w (cuD D p) w 2) (dk_lv (cuD D p)) (cuD D p) := by
  have h84 := hb.2.2.2.1
  have hn := hb.2.1
  obtain ⟨c1, c2, c3, c4, c5, c6, c7, c8, c9⟩ := hC
  have hlt : ∀ w, dk_lv (cuD D p) w = true → w < D 84 := fun w hw => by
    rw [cu_lv (by omega), Bool.and_eq_true] at hw
    have := hw.1
    simp only [dk_lv, Bool.and_eq_true, decide_eq_true_eq] at this
    exact this.1
  refine ⟨c1, ⟨D 84, c2, h84, fun w hw => by have := hlt w hw; omega⟩, fun i hi => by rw [hl i hi, cu_lv (by omega)], fun w hw => ?_, fun h hh w hw => ?_, fun h hh => ?_⟩
  · show u.1 28 w = nI (bk_w (cuD D p) w 0) ∧ u.1 29 w = nI (bk_w (cuD D p) w 1) ∧ u.1 30 w = nI (bk_w (cuD D p) w 2)
    rw [cuD_w D p w (by omega), cuD_w D p w (by omega), cuD_w D p w (by omega)]; exact c7 w (hlt w hw)
  · show _ = (decide (bk_w (cuD D p) w 0 = h) || decide (bk_w (cuD D p) w 1 = h))
    rw [cuD_w D p w (by omega), cuD_w D p w (by omega)]; exact c9 h hh w (hlt w hw)
  · rw [cuD_out (by omega)]; exact ⟨(c6 h hh).2.2.2.1, (hb.2.2.2.2.2.2.2.1 h hh).2.2.2.2.2.1⟩
theorem lv_bt {D : Nat → Nat} (h84 : D 84 ≤ 17) (i : Nat) (hi : i < 32) : bt (pn_set (D 84) (bk_lv D)) i = dk_lv D i := by
  rw [pn_set_bt (bk_lv D) (D 84) (by omega) i hi]; rfl
/-- both hold the belt while they think: the reference's row may differ in its cuts -/
def KM (τ : ax_S) (D' : Nat → Nat) (w : ax_S) : Prop := fo tmS w τ ∧ mD w D'
theorem KM.st {τ u w : ax_S} {D' : Nat → Nat} (h : KM τ D' u) (hf : fo scm w u) : KM τ D' w := ⟨(hf.mono (fun c i h => Or.inl h)).trans h.1, h.2.to hf scm15⟩
theorem KM.K {τ w : ax_S} {n : Nat} {E D D' : Nat → Nat} {dry lw ho : Nat} {L : Nat → List (List (Nat × Nat) × List (Nat × Nat))} (h : KM τ D' w) (hb : bk_ok n E D dry) (hlw : lwok lw ho L) (hlM : lwM τ lw ho L) (hM : bk_M τ n E D dry) (hD : ∀ h, h < n → D' h = D h) : mk_K w n (kpf E D dry ho L) :=
  mK_any hb hlw hlM h.1 hM.2.1 hM.2.2.2 h.2 hD
theorem KM.h23 {τ w : ax_S} {D' : Nat → Nat} {n : Nat} (h : KM τ D' w) (h23 : τ.1 0 23 = nI n) : w.1 0 23 = nI n := by
  rw [h.1.1 0 23 (by unfold tmS scm; omega)]; exact h23
theorem KM.back {τ w : ax_S} {n : Nat} {E D : Nat → Nat} {dry : Nat} (h : KM τ D w) (hM : bk_M τ n E D dry) (hlg : lg_ok D) : IM τ n E D dry w :=
  ⟨h.1, D, eqv.rfl', hlg, h.h23 hM.1, by rw [h.1.1 0 24 (by unfold tmS scm; omega)]; exact hM.2.1, h.2, fun k q hk hq => by rw [h.1.1 14 _ (by unfold tmS scm; omega)]; exact hM.2.2.2 k q hk hq⟩
/-- how many burn -/
def bcn (n : Nat) (D : Nat → Nat) (kp : Nat → Nat → Nat → Nat) (h v : Nat) : Nat := fb_ct (fun k => decide (D k < (dk_run D kp h v).1 k)) n
theorem bcn_le (n : Nat) (D : Nat → Nat) (kp : Nat → Nat → Nat → Nat) (h v : Nat) : bcn n D kp h v ≤ n := fb_ct_le _ _
theorem bcn_eq {n : Nat} (hn : n ≤ 8) (D : Nat → Nat) (kp : Nat → Nat → Nat → Nat) (h v : Nat) : v_J6_bitCount_0f7a4 (dk_bu n D kp h v) = nI (bcn n D kp h v) := pn_cnt hn
theorem ct_X12_burnMany {d : Nat} (hd : 12 ≤ d) {τ : ax_S} {n : Nat} {D : Nat → Nat} {kp : Nat → Nat → Nat → Nat} (hok : dk_ok n D kp) (h23 : τ.1 0 23 = nI n) (hm : mD τ D) (hK : mk_K τ n kp) {h v : Nat} (hh : h < n) (hv1 : 1 ≤ v) (hv : v ≤ 999) :
    ax_Ct shM d mX12_burnMany [ax_r 0, ax_i (nI h), ax_i (nI v)] (fun r u => r = some (ax_i (nI (bcn n D kp h v))) ∧ fo scm u τ) τ := by
  obtain ⟨d, rfl⟩ : ∃ e, d = e + 1 := ⟨d - 1, by omega⟩
  refine ax_Ct.of (lv := [some (ax_r 0), some (ax_i (nI h)), some (ax_i (nI v))]) (by decide +kernel) (fun ad => Nat.le_of_ble_eq_true rfl) (fun ad => rfl) ?_
  refine s_X12_burnMany_0 (by omega) τ _ _ ?_
  refine (fl_M (by omega) hok h23 hm hK fo.rfl' hh hv1 hv).mono (fun r u hu => ⟨_, hu.1, s_X12_burnMany_6 (by omega) u _ ⟨?_, hu.2⟩⟩)
  rw [bcn_eq hok.1]
/-! ===== MARRY ===== -/
theorem tied_cong {D D' : Nat → Nat} {x y : Nat} : ∀ {k : Nat}, (∀ w q, w < k → q < 4 → bk_w D' w q = bk_w D w q) → tied D' x y k = tied D x y k
  | 0, _ => rfl
  | k + 1, h => by
    rw [tied, tied, tied_cong (fun w q hw hq => h w q (by omega) hq), h k 3 (by omega) (by omega), h k 0 (by omega) (by omega), h k 1 (by omega) (by omega)]
theorem eqv.whyt {D' D : Nat → Nat} (h : eqv D' D) (h84 : D 84 ≤ 16) (E : Nat → Nat) (x y : Nat) : why E D' x y = why E D x y := by
  unfold why
  rw [h.h84 h84, h 85 (by omega), tied_cong (fun w q hw hq => h.w hw hq)]
theorem ct_X11_couldLay {d : Nat} (hd : 4 ≤ d) {σ : ax_S} {n : Nat} {E D : Nat → Nat} {dry x y : Nat} (hb : bk_ok n E D dry) (hC : bk_C σ n E D dry) (hx : x < n) (hy : y < n) :
    ax_Ct shC d mX11_couldLay [ax_r 0, ax_i (nI x), ax_i (nI y)] (fun r u => r = some (ax_i (if why E D x y = 9 then 1 else 0)) ∧ u = σ) σ := by
  obtain ⟨d, rfl⟩ : ∃ e, d = e + 1 := ⟨d - 1, by omega⟩
  have hn := hb.2.1
  have h84 := hb.2.2.2.1
  have px := (hb.2.2.2.2.2.2.2.1 x hx).1
  have py := (hb.2.2.2.2.2.2.2.1 y hy).1
  have pb := prc_b (E := E) (a := x) (b := y) px py
  refine ax_Ct.of (lv := [some (ax_r 0), some (ax_i (nI x)), some (ax_i (nI y))]) (by decide +kernel) (fun ad => Nat.le_of_ble_eq_true rfl) (fun ad => rfl) ?_
  refine s_X11_couldLay_0 (by omega) σ _ _ (fun c => ?_) (fun c => ?_)
  · rw [hC.2.1] at c
    have : D 84 = 16 := by have := (n_le 16 (D 84)).mp c; omega
    refine ⟨?_, rfl⟩
    have e : why E D x y = 2 := by unfold why; rw [if_pos (by simp [this])]
    rw [e]; rfl
  · rw [hC.2.1] at c
    have h16 : ¬ D 84 = 16 := fun z => c ((n_le 16 (D 84)).mpr (by omega))
    refine (ct_X0_mayJoin (by omega) hb hC hx hy).mono ?_
    rintro r u ⟨rfl, rfl⟩
    refine ⟨_, rfl, s_X11_couldLay_21 (by omega) u _ _ _ (fun _ => n_in _ _) (fun _ => n_in _ _) ⟨?_, rfl⟩⟩
    rw [n_tn x, n_tn y, (hC.2.2.2.2.2.1 x hx).1, (hC.2.2.2.2.2.1 y hy).1, n_price (by omega) (by omega), hC.2.2.1]
    unfold why
    have e3 : prc E x y = max 1 (dst (E (4 * x)) (E (4 * y))) := rfl
    rw [← e3, decide_eq_false h16, Bool.or_false]
    have ec : (nI (D 85) < nI (prc E x y)) ↔ D 85 < prc E x y := n_lt _ _ (by have := hb.2.2.2.2.1; omega) (by omega)
    rw [Bool.or_comm (tied D x y (D 84))]
    cases chap E x y || tied D x y (D 84)
    · by_cases z : D 85 < prc E x y
      · rw [if_neg (fun q => q.2 (ec.mpr z)), if_neg (show ¬ (false = true) by decide), if_pos z]; rfl
      · rw [if_pos ⟨by decide, fun q => z (ec.mp q)⟩, if_neg (show ¬ (false = true) by decide), if_neg z]; rfl
    · rw [if_neg (fun q => q.1 rfl), if_pos rfl]; rfl
def mr1 (ok : Nat → Nat → Bool) (bn : Nat → Nat → Nat) (a b : Nat) (s : Nat × Nat) : Nat × Nat := if ok a b && decide (bn a b < s.1) then (bn a b, 10 * a + b + 1) else s
def mrB (ok : Nat → Nat → Bool) (bn : Nat → Nat → Nat) (a : Nat) : Nat → Nat → Nat × Nat → Nat × Nat
  | 0, _, s => s
  | f + 1, b, s => mrB ok bn a f (b + 1) (mr1 ok bn a b s)
def mrA (ok : Nat → Nat → Bool) (bn : Nat → Nat → Nat) (n : Nat) : Nat → Nat → Nat × Nat → Nat × Nat
  | 0, _, s => s
  | f + 1, a, s => mrA ok bn n f (a + 1) (mrB ok bn a (n - (a + 1)) (a + 1) s)
def mrI (s : Nat × Nat) : Prop := s.1 ≤ 9 ∧ (s.2 = 0 → s.1 = 9) ∧ (s.1 = 9 → s.2 = 0) ∧ s.2 < 100
theorem mrI_1 {ok : Nat → Nat → Bool} {bn : Nat → Nat → Nat} (hbn : ∀ a b, bn a b ≤ 8) {a b : Nat} {s : Nat × Nat} (ha : a < 8) (hb : b < 8) (h : mrI s) : mrI (mr1 ok bn a b s) := by
  unfold mr1; split
  · have := hbn a b
    exact ⟨by show bn a b ≤ 9; omega, fun z => absurd z (by show ¬ (10 * a + b + 1 = 0); omega), fun z => absurd z (by show ¬ (bn a b = 9); omega), by show 10 * a + b + 1 < 100; omega⟩
  · exact h
def mrAns (s : Nat × Nat) (w : Bool) : Int32 := if s.2 = 0 then -1 else if w then nI s.1 else nI (s.2 - 1)
theorem w_X11_marry52 {σ : ax_S} {n : Nat} {E D : Nat → Nat} {dry lw ho : Nat} {L : Nat → List (List (Nat × Nat) × List (Nat × Nat))} (hb : bk_ok n E D dry) (hlw : lwok lw ho L) (hlC : lwC σ lw ho L) {h v : Nat} (hh : h < n) (hv1 : 1 ≤ v) (hv : v ≤ 999) {x3 : Int32} {Q : Option ax_V → ax_S → Prop} {a : Nat} (ha : a < n) :
    ∀ f b s u, b + f = n → a < b → mrI s → IC σ n E D dry u →
      (∀ s' u', s' = mrB (fun a b => decide (why E D a b = 9)) (fun a b => bcn n (thD D a b) (kpf E D dry ho L) h v) a f b s → mrI s' → IC σ n E D dry u' → ax_W shC (59 + 1) mX11_marry Q 34 [some (ax_r 0), some (ax_i (nI h)), some (ax_i (nI v)), some (ax_i x3), some (ax_i (nI s'.1)), some (ax_i (hoI s'.2)), some (ax_i (nI (a + 1))), none, none] [] u') →
      ax_W shC (59 + 1) mX11_marry Q 52 [some (ax_r 0), some (ax_i (nI h)), some (ax_i (nI v)), some (ax_i x3), some (ax_i (nI s.1)), some (ax_i (hoI s.2)), some (ax_i (nI a)), some (ax_i (nI b)), none] [] u := by
  have hn := hb.2.1
  have hkp := kpf_le E D dry ho L
  intro f
  induction f with
  | zero =>
    intro b s u hbf hab hs hu k
    have e9 := hu.2.1.1
    refine s_X11_marry_52 (by omega) u _ _ _ _ _ _ _ (fun _ => ?_) (fun c => absurd (by rw [e9]; exact (n_le n b).mpr (by omega)) c)
    rw [nI_1]; exact k s u rfl hs hu
  | succ f ih =>
    intro b s u hbf hab hs hu k
    have e9 := hu.2.1.1
    refine s_X11_marry_52 (by omega) u _ _ _ _ _ _ _ (fun c => absurd (by rw [e9] at c; exact (n_le n b).mp c) (by omega)) (fun _ => ?_)
    refine (ct_X11_couldLay (by omega) hb hu.2.1 ha (show b < n by omega)).mono ?_
    rintro r w ⟨rfl, rfl⟩
    refine ⟨_, rfl, ?_⟩
    by_cases z : why E D a b = 9
    · rw [if_pos z]
      refine s_X11_marry_72 (by omega) w _ _ _ _ _ _ _ _ (fun _ => ?_) (fun c => absurd (show ¬ (1 : Int32) = 0 by decide) c)
      refine (ct_X11_liveWith (by omega) hb hu ha (show b < n by omega)).mono ?_
      rintro r w ⟨rfl, w1, w2⟩
      refine ⟨_, rfl, s_X11_marry_90 (by omega) w _ _ _ _ _ _ _ _ ?_⟩
      refine (fl_C (by omega) (th_ok hb ha (show b < n by omega) (by omega) hkp) (th_sk hb w1.2.1 w2) (w1.K hb hlw hlC) fo.rfl' hh hv1 hv).mono ?_
      rintro r t ⟨rfl, t1, -, -⟩
      have hbl := bcn_le n (thD D a b) (kpf E D dry ho L) h v
      have hs1 := hs.1
      have em : mrI (mr1 (fun a b => decide (why E D a b = 9)) (fun a b => bcn n (thD D a b) (kpf E D dry ho L) h v) a b s) := mrI_1 (fun a b => Nat.le_trans (bcn_le _ _ _ _ _) hn) (by omega) (by omega) hs
      have et : (10 : Int32) * nI a + nI b = hoI (10 * a + b + 1) := by rw [hoI_s, ← n_add, ← n_mul]; rfl
      refine ⟨_, rfl, s_X11_marry_95 (by omega) t _ _ _ _ _ _ _ _ (fun c => ?_) (fun c => ?_)⟩
      · rw [bcn_eq hn] at c
        have c2 := (n_le s.1 (bcn n (thD D a b) (kpf E D dry ho L) h v)).mp c
        rw [nI_1]
        have e1 : mr1 (fun a b => decide (why E D a b = 9)) (fun a b => bcn n (thD D a b) (kpf E D dry ho L) h v) a b s = s := by
          unfold mr1; rw [if_neg]; rw [Bool.and_eq_true, decide_eq_true_eq, decide_eq_true_eq]; exact fun q => absurd q.2 (Nat.not_lt.mpr c2)
        refine ih (b + 1) s t (by omega) (by omega) hs (w1.st t1) (fun s' u' hs' => k s' u' ?_)
        rw [mrB, e1]; exact hs'
      · rw [bcn_eq hn] at c
        have c2 : bcn n (thD D a b) (kpf E D dry ho L) h v < s.1 := Nat.not_le.mp (fun q => c ((n_le s.1 _).mpr q))
        rw [bcn_eq hn, nI_1, et]
        have e1 : mr1 (fun a b => decide (why E D a b = 9)) (fun a b => bcn n (thD D a b) (kpf E D dry ho L) h v) a b s = (bcn n (thD D a b) (kpf E D dry ho L) h v, 10 * a + b + 1) := by
          unfold mr1; rw [if_pos]; rw [Bool.and_eq_true, decide_eq_true_eq, decide_eq_true_eq]; exact ⟨z, c2⟩
        rw [e1] at em
        refine ih (b + 1) (bcn n (thD D a b) (kpf E D dry ho L) h v, 10 * a + b + 1) t (by omega) (by omega) em (w1.st t1) (fun s' u' hs' => k s' u' ?_)
        rw [mrB, e1]; exact hs'
    · rw [if_neg z]
      refine s_X11_marry_72 (by omega) w _ _ _ _ _ _ _ _ (fun c => absurd rfl c) (fun _ => ?_)
      rw [nI_1]
      refine ih (b + 1) s w (by omega) (by omega) hs hu (fun s' u' hs' => k s' u' ?_)
      rw [mrB]
      have e1 : mr1 (fun a b => decide (why E D a b = 9)) (fun a b => bcn n (thD D a b) (kpf E D dry ho L) h v) a b s = s := by
        unfold mr1; rw [if_neg]; rw [Bool.and_eq_true, decide_eq_true_eq]; exact fun q => z q.1
      rw [e1]; exact hs'
theorem w_X12_marry50 {τ : ax_S} {n : Nat} {E D : Nat → Nat} {dry lw ho : Nat} {L : Nat → List (List (Nat × Nat) × List (Nat × Nat))} (hb : bk_ok n E D dry) (hlg : lg_ok D) (hlw : lwok lw ho L) (hlM : lwM τ lw ho L) (h0 : bk_M τ n E D dry) {h v : Nat} (hh : h < n) (hv1 : 1 ≤ v) (hv : v ≤ 999) {x3 : Int32} {Q : Option ax_V → ax_S → Prop} {a : Nat} (ha : a < n) :
    ∀ f b s u, b + f = n → a < b → mrI s → IM τ n E D dry u →
      (∀ s' u', s' = mrB (fun a b => decide (why E D a b = 9)) (fun a b => bcn n (thD D a b) (kpf E D dry ho L) h v) a f b s → mrI s' → IM τ n E D dry u' → ax_W shM (59 + 1) mX12_marry Q 35 [some (ax_r 0), some (ax_i (nI h)), some (ax_i (nI v)), some (ax_i x3), some (ax_i (hoI s'.2)), some (ax_i (if s'.2 = 0 then 0 else nI s'.1)), some (ax_i (nI (a + 1))), none, none] [] u') →
      ax_W shM (59 + 1) mX12_marry Q 50 [some (ax_r 0), some (ax_i (nI h)), some (ax_i (nI v)), some (ax_i x3), some (ax_i (hoI s.2)), some (ax_i (if s.2 = 0 then 0 else nI s.1)), some (ax_i (nI a)), some (ax_i (nI b)), none] [] u := by
  have hn := hb.2.1
  have h84 := hb.2.2.2.1
  have hkp := kpf_le E D dry ho L
  intro f
  induction f with
  | zero =>
    intro b s u hbf hab hs hu k
    have e9 : u.1 0 23 = nI n := by obtain ⟨-, D', -, -, hM⟩ := hu; exact hM.1
    refine s_X12_marry_50 (by omega) u _ _ _ _ _ _ _ (fun _ => ?_) (fun c => absurd (by rw [e9]; exact (n_le n b).mpr (by omega)) c)
    rw [nI_1]; exact k s u rfl hs hu
  | succ f ih =>
    intro b s u hbf hab hs hu k
    have hu' := hu
    obtain ⟨fu, D', hD, hl', hM⟩ := hu'
    have e9 : u.1 0 23 = nI n := hM.1
    have e84 : u.1 15 84 = nI (D 84) := by rw [hM.2.2.1 84 (by omega), hD.h84 h84]
    have i0 : (16 : Int32) + 4 * nI (D 84) + 0 = nI (16 + 4 * D 84 + 0) := n_w _ 0
    have i1 : (16 : Int32) + 4 * nI (D 84) + 1 = nI (16 + 4 * D 84 + 1) := n_w _ 1
    have i2 : (16 : Int32) + 4 * nI (D 84) + 2 = nI (16 + 4 * D 84 + 2) := n_w _ 2
    have i3 : (16 : Int32) + 4 * nI (D 84) + 3 = nI (16 + 4 * D 84 + 3) := n_w _ 3
    have hbn : b < n := by omega
    refine s_X12_marry_50 (by omega) u _ _ _ _ _ _ _ (fun c => absurd (by rw [e9] at c; exact (n_le n b).mp c) (by omega)) (fun _ => ?_)
    refine (ct_X12_whyNot (by omega) (hD.ok hb) hM ha hbn (by omega)).mono ?_
    rintro r w ⟨rfl, rfl⟩
    refine ⟨_, rfl, ?_⟩
    rw [hD.whyt h84]
    by_cases z : why E D a b = 9
    · have ew : whyI (why E D a b) = -1 := if_pos z
      have ms : mD (stg w (D 84) a b) (thD D a b) := by
        have := stg_D hM.2.2.1 (by rw [hD.h84 h84]; exact h84) a b
        rw [hD.h84 h84, hD.tht h84] at this; exact this
      have f2 : fo tmS (stg w (D 84) a b) τ := ((stg_fo w (D 84) a b).mono (fun c i h => Or.inr h)).trans fu
      rw [ew]
      refine s_X12_marry_67 (by omega) w _ _ _ _ _ _ _ _ (fun c => absurd rfl c) (fun _ => by rw [e84, i0]; exact n_in _ _) (fun _ => by rw [e84, i1]; exact n_in _ _) (fun _ => by rw [e84, i2]; exact n_in _ _) (fun _ => by rw [e84, i3]; exact n_in _ _) (fun _ => ?_)
      rw [e84, i0, i1, i2, i3, n_tn _, n_tn _, n_tn _, n_tn _, nI_1]
      have h23s : (stg w (D 84) a b).1 0 23 = nI n := by rw [(stg_fo w (D 84) a b).1 0 23 (by omega)]; exact e9
      refine (ct_X12_burnMany (by omega) (th_ok hb ha hbn (by omega) hkp) h23s ms (mK_any hb hlw hlM f2 h0.2.1 h0.2.2.2 ms (fun h hh => thD_ne (by omega) (by omega))) hh hv1 hv).mono ?_
      rintro r t ⟨rfl, t1⟩
      have ft : fo tmS t τ := (t1.mono (fun c i h => Or.inl h)).trans f2
      have e84t : t.1 15 84 - 1 = nI (D 84) := by rw [t1.1 15 84 (by unfold scm; omega), ms 84 (by omega), thD_84]; exact n_sub (D 84 + 1) 1
      have hI : IM τ n E D dry (ax_ui t 15 84 (nI (D 84))) := IM.off hb ha hbn h0 hlg ft (ms.to t1 scm15)
      have hbl := bcn_le n (thD D a b) (kpf E D dry ho L) h v
      have hs1 := hs.1
      have em : mrI (mr1 (fun a b => decide (why E D a b = 9)) (fun a b => bcn n (thD D a b) (kpf E D dry ho L) h v) a b s) := mrI_1 (fun a b => Nat.le_trans (bcn_le _ _ _ _ _) hn) (by omega) (by omega) hs
      have et : (10 : Int32) * nI a + nI b = hoI (10 * a + b + 1) := by rw [hoI_s, ← n_add, ← n_mul]; rfl
      have em1 := hoI_m1 (k := s.2) (by have := hs.2.2.2; omega)
      have up : bcn n (thD D a b) (kpf E D dry ho L) h v < s.1 → ax_W shM (59 + 1) mX12_marry Q 50 [some (ax_r 0), some (ax_i (nI h)), some (ax_i (nI v)), some (ax_i x3), some (ax_i ((10 : Int32) * nI a + nI b)), some (ax_i (nI (bcn n (thD D a b) (kpf E D dry ho L) h v))), some (ax_i (nI a)), some (ax_i (nI b + 1)), none] [] (ax_ui t 15 84 (nI (D 84))) := fun c2 => by
        have e1 : mr1 (fun a b => decide (why E D a b = 9)) (fun a b => bcn n (thD D a b) (kpf E D dry ho L) h v) a b s = (bcn n (thD D a b) (kpf E D dry ho L) h v, 10 * a + b + 1) := by
          unfold mr1; rw [if_pos]; rw [Bool.and_eq_true, decide_eq_true_eq, decide_eq_true_eq]; exact ⟨z, c2⟩
        rw [e1] at em
        have := ih (b + 1) (bcn n (thD D a b) (kpf E D dry ho L) h v, 10 * a + b + 1) _ (by omega) (by omega) em hI (fun s' u' hs' => k s' u' (by rw [mrB, e1]; exact hs'))
        rw [if_neg (by show ¬ (10 * a + b + 1 = 0); omega)] at this
        rw [et, nI_1]; exact this
      refine ⟨_, rfl, s_X12_marry_87 (by omega) t _ _ _ _ _ _ _ _ (fun c => ?_) (fun c1 c2 => ?_) (fun c1 c2 => ?_)⟩
      · rw [e84t]
        have := hs.2.1 (em1.mp c)
        exact up (by omega)
      · rw [e84t]
        have c0 : ¬ s.2 = 0 := fun q => c1 (em1.mpr q)
        rw [if_neg c0] at c2
        have c3 := (n_le s.1 (bcn n (thD D a b) (kpf E D dry ho L) h v)).mp c2
        have e1 : mr1 (fun a b => decide (why E D a b = 9)) (fun a b => bcn n (thD D a b) (kpf E D dry ho L) h v) a b s = s := by
          unfold mr1; rw [if_neg]; rw [Bool.and_eq_true, decide_eq_true_eq, decide_eq_true_eq]; exact fun q => absurd q.2 (Nat.not_lt.mpr c3)
        rw [nI_1]
        exact ih (b + 1) s _ (by omega) (by omega) hs hI (fun s' u' hs' => k s' u' (by rw [mrB, e1]; exact hs'))
      · rw [e84t]
        have c0 : ¬ s.2 = 0 := fun q => c1 (em1.mpr q)
        rw [if_neg c0] at c2
        exact up (Nat.not_le.mp (fun q => c2 ((n_le s.1 _).mpr q)))
    · have ew : ¬ whyI (why E D a b) = -1 := by
        unfold whyI; rw [if_neg z]
        exact n_m1 _ (by unfold why; repeat' split
                         all_goals omega)
      refine s_X12_marry_67 (by omega) w _ _ _ _ _ _ _ _ (fun _ => ?_) (fun c => absurd ew c) (fun c => absurd ew c) (fun c => absurd ew c) (fun c => absurd ew c) (fun c => absurd ew c)
      rw [nI_1]
      have e1 : mr1 (fun a b => decide (why E D a b = 9)) (fun a b => bcn n (thD D a b) (kpf E D dry ho L) h v) a b s = s := by
        unfold mr1; rw [if_neg]; rw [Bool.and_eq_true, decide_eq_true_eq]; exact fun q => z q.1
      exact ih (b + 1) s w (by omega) (by omega) hs hu (fun s' u' hs' => k s' u' (by rw [mrB, e1]; exact hs'))
theorem good_marry {j : Nat} {σ τ : ax_S} (h : RR j σ τ) (a0 a1 a2 : Int32) : good j mX11_marry mX12_marry [ax_i a0, ax_i a1, ax_i a2] σ τ := by
  obtain ⟨n, E, D, dry, lw, ho, L, hb, hlg, hlw, hC, hsm, hM, hlC, hlM, hnext⟩ := h.thought
  have hn := hb.2.1
  have iC : IC σ n E D dry σ := ⟨fo.rfl', hC, hsm⟩
  have iM : IM τ n E D dry τ := ⟨fo.rfl', D, eqv.rfl', hlg, hM⟩
  by_cases g : (∃ x, x < n ∧ a0 = nI x) ∧ (∃ k, 1 ≤ k ∧ k ≤ 999 ∧ a1 = nI k) ∧ ∃ b : Bool, a2 = if b then 1 else 0
  · obtain ⟨⟨x, hx, rfl⟩, ⟨v, hv1, hv, rfl⟩, w, rfl⟩ := g
    have q1 : ¬ nI x < 0 ∧ ¬ σ.1 5 9 ≤ nI x := by rw [hC.1]; exact (is_H (nI x) n).mpr ⟨x, hx, rfl⟩
    have q2 : ¬ nI x < (0 : Int32) ∧ ¬ τ.1 0 23 - 1 < nI x := by rw [hM.1]; exact (is_Hm (nI x) n).mpr ⟨x, hx, rfl⟩
    have q3 : ¬ nI v < (1 : Int32) ∧ ¬ (999 : Int32) < nI v := (in_R (nI v) 1 999).mpr ⟨v, hv1, hv, rfl⟩
    have bw := (bit_C (if w then 1 else 0)).mpr ⟨w, rfl⟩
    have mw := (bit_M (if w then 1 else 0)).mpr ⟨w, rfl⟩
    have i9 : mrI (9, 0) := ⟨Nat.le_refl 9, fun _ => rfl, fun _ => rfl, by show (0 : Nat) < 100; omega⟩
    refine ⟨mrAns (mrA (fun a b => decide (why E D a b = 9)) (fun a b => bcn n (thD D a b) (kpf E D dry ho L) x v) n n 0 (9, 0)) w, IC σ n E D dry, IM τ n E D dry, ?_, ?_, hnext⟩
    · refine ax_Ct.of (lv := [some (ax_r 0), some (ax_i (nI x)), some (ax_i (nI v)), some (ax_i (if w then 1 else 0)), none, none, none, none, none]) (by decide +kernel) (fun ad => Nat.le_of_ble_eq_true rfl) (fun ad => rfl) ?_
      refine s_X11_marry_0 (d := 59) (by omega) σ _ _ _ (fun c => absurd q1 c) (fun _ c => absurd q3 c) (fun _ _ _ => ?_) (fun _ _ c => absurd bw c)
      have loop : ∀ f a s u, a + f = n → mrI s → IC σ n E D dry u → ax_W shC (59 + 1) mX11_marry (fun r t => r = some (ax_i (mrAns (mrA (fun a b => decide (why E D a b = 9)) (fun a b => bcn n (thD D a b) (kpf E D dry ho L) x v) n f a s) w)) ∧ IC σ n E D dry t) 34 [some (ax_r 0), some (ax_i (nI x)), some (ax_i (nI v)), some (ax_i (if w then 1 else 0)), some (ax_i (nI s.1)), some (ax_i (hoI s.2)), some (ax_i (nI a)), none, none] [] u := by
        intro f
        induction f with
        | zero =>
          intro a s u ha hs hu
          have em1 := hoI_m1 (k := s.2) (by have := hs.2.2.2; omega)
          refine s_X11_marry_34 (by omega) u _ _ _ _ _ _ (fun _ => ⟨?_, hu⟩) (fun c => absurd (by rw [hu.2.1.1]; exact (n_le n a).mpr (by omega)) c)
          show some (ax_i _) = some (ax_i (mrAns s w))
          unfold mrAns
          by_cases z : s.2 = 0
          · have e : hoI s.2 = -1 := em1.mpr z
            rw [if_pos z, e, if_neg (show ¬ ¬ (-1 : Int32) = -1 by decide)]
            split <;> rfl
          · have e : ¬ hoI s.2 = -1 := fun q => z (em1.mp q)
            have e2 : hoI s.2 = nI (s.2 - 1) := by
              obtain ⟨k, hk⟩ : ∃ k, s.2 = k + 1 := ⟨s.2 - 1, by omega⟩
              rw [hk, hoI_s]; rfl
            rw [if_neg z, if_pos e, e2]
            cases w
            · rfl
            · rfl
        | succ f ih =>
          intro a s u ha hs hu
          refine s_X11_marry_34 (by omega) u _ _ _ _ _ _ (fun c => absurd (by rw [hu.2.1.1] at c; exact (n_le n a).mp c) (by omega)) (fun _ => ?_)
          rw [nI_1]
          refine w_X11_marry52 hb hlw hlC hx hv1 hv (show a < n by omega) (n - (a + 1)) (a + 1) s u (by omega) (by omega) hs hu (fun s' u' hs' hi hu' => ?_)
          rw [mrA, ← hs']
          exact ih (a + 1) s' u' (by omega) hi hu'
      exact loop n 0 (9, 0) σ (by omega) i9 iC
    · refine ax_Ct.of (lv := [some (ax_r 0), some (ax_i (nI x)), some (ax_i (nI v)), some (ax_i (if w then 1 else 0)), none, none, none, none, none]) (by decide +kernel) (fun ad => Nat.le_of_ble_eq_true rfl) (fun ad => rfl) ?_
      refine s_X12_marry_0 (d := 59) (by omega) τ _ _ _ (fun c => absurd q2 c) (fun _ c => absurd q3 c) (fun _ _ _ => ?_) (fun _ _ c => absurd mw c)
      have loop : ∀ f a s u, a + f = n → mrI s → IM τ n E D dry u → ax_W shM (59 + 1) mX12_marry (fun r t => r = some (ax_i (mrAns (mrA (fun a b => decide (why E D a b = 9)) (fun a b => bcn n (thD D a b) (kpf E D dry ho L) x v) n f a s) w)) ∧ IM τ n E D dry t) 35 [some (ax_r 0), some (ax_i (nI x)), some (ax_i (nI v)), some (ax_i (if w then 1 else 0)), some (ax_i (hoI s.2)), some (ax_i (if s.2 = 0 then 0 else nI s.1)), some (ax_i (nI a)), none, none] [] u := by
        intro f
        induction f with
        | zero =>
          intro a s u ha hs hu
          have e9 : u.1 0 23 = nI n := by obtain ⟨-, D', -, -, hM⟩ := hu; exact hM.1
          have em1 := hoI_m1 (k := s.2) (by have := hs.2.2.2; omega)
          refine s_X12_marry_35 (by omega) u _ _ _ _ _ _ (fun _ => ⟨?_, hu⟩) (fun c => absurd (by rw [e9]; exact (n_le n a).mpr (by omega)) c)
          show some (ax_i _) = some (ax_i (mrAns s w))
          unfold mrAns
          by_cases z : s.2 = 0
          · have e : hoI s.2 = -1 := em1.mpr z
            rw [e, if_pos rfl, if_pos z]
          · have e : ¬ hoI s.2 = -1 := fun q => z (em1.mp q)
            have e2 : hoI s.2 = nI (s.2 - 1) := by
              obtain ⟨k, hk⟩ : ∃ k, s.2 = k + 1 := ⟨s.2 - 1, by omega⟩
              rw [hk, hoI_s]; rfl
            rw [if_neg z, if_neg e, e2, if_neg z]
            cases w
            · rfl
            · rfl
        | succ f ih =>
          intro a s u ha hs hu
          have e9 : u.1 0 23 = nI n := by obtain ⟨-, D', -, -, hM⟩ := hu; exact hM.1
          refine s_X12_marry_35 (by omega) u _ _ _ _ _ _ (fun c => absurd (by rw [e9] at c; exact (n_le n a).mp c) (by omega)) (fun _ => ?_)
          rw [nI_1]
          refine w_X12_marry50 hb hlg hlw hlM hM hx hv1 hv (show a < n by omega) (n - (a + 1)) (a + 1) s u (by omega) (by omega) hs hu (fun s' u' hs' hi hu' => ?_)
          rw [mrA, ← hs']
          exact ih (a + 1) s' u' (by omega) hi hu'
      exact loop n 0 (9, 0) τ (by omega) i9 iM
  · refine good.ask h (-1) ?_ ?_
    · refine ax_Ct.of (lv := [some (ax_r 0), some (ax_i a0), some (ax_i a1), some (ax_i a2), none, none, none, none, none]) (by decide +kernel) (fun ad => Nat.le_of_ble_eq_true rfl) (fun ad => rfl) ?_
      exact s_X11_marry_0 (d := 59) (by omega) σ _ _ _ (fun _ => ⟨rfl, fo.rfl'⟩) (fun _ _ => ⟨rfl, fo.rfl'⟩) (fun c1 c2 c3 => absurd ⟨(is_H _ n).mp (by rw [← hC.1]; exact c1), (in_R _ 1 999).mp c2, (bit_C _).mp c3⟩ g) (fun _ _ _ => ⟨rfl, fo.rfl'⟩)
    · refine ax_Ct.of (lv := [some (ax_r 0), some (ax_i a0), some (ax_i a1), some (ax_i a2), none, none, none, none, none]) (by decide +kernel) (fun ad => Nat.le_of_ble_eq_true rfl) (fun ad => rfl) ?_
      exact s_X12_marry_0 (d := 59) (by omega) τ _ _ _ (fun _ => ⟨rfl, fo.rfl'⟩) (fun _ _ => ⟨rfl, fo.rfl'⟩) (fun c1 c2 c3 => absurd ⟨(is_Hm _ n).mp (by rw [← hM.1]; exact c1), (in_R _ 1 999).mp c2, (bit_M _).mp c3⟩ g) (fun _ _ _ => ⟨rfl, fo.rfl'⟩)
