/-! ===== strokes: what is kept is no more than the stroke; only live wires count ===== -/
theorem sk_go_le {n : Nat} {fr to sa : Nat → Nat} {lv : Nat → Bool} {kp : Nat → Nat → Nat → Nat} (hok : sk_ok n fr to sa lv kp) {v : Nat} :
    ∀ (f i : Nat) (q : List (Nat × Nat × Nat)) (bn : Nat → Bool) (kt : Nat → Nat) (ws : Nat), sk_iv n fr to lv v i q bn kt ws → fb_sm (sk_go fr to sa lv kp f q bn kt ws).1 n ≤ v := by
  intro f
  induction f with
  | zero => intro i q bn kt ws hiv; have := hiv.2.1; show fb_sm kt n ≤ v; omega
  | succ f ih =>
    intro i q bn kt ws hiv
    cases q with
    | nil => have := hiv.2.1; show fb_sm kt n ≤ v; omega
    | cons x q =>
      obtain ⟨h, p, b⟩ := x
      exact ih (i + 1) _ _ _ _ (sk_step hok hiv rfl rfl).1
theorem dk_run_le {n : Nat} {D : Nat → Nat} {kp : Nat → Nat → Nat → Nat} (hok : dk_ok n D kp) {h v : Nat} (hh : h < n) (hv : 1 ≤ v) : fb_sm (dk_run D kp h v).1 n ≤ v :=
  sk_go_le hok.sk 36 0 _ _ _ _ (sk_iv0 hh hv)
theorem dk_run_k {n : Nat} {D : Nat → Nat} {kp : Nat → Nat → Nat → Nat} (hok : dk_ok n D kp) {h v k : Nat} (hh : h < n) (hv : 1 ≤ v) (hk : k < n) : (dk_run D kp h v).1 k ≤ v := by
  have h1 := dk_run_le hok hh hv
  have h2 := fb_sm_part (dk_run D kp h v).1 hk
  omega
theorem sk_on_cong {fr to fr' to' : Nat → Nat} {lv : Nat → Bool} (h : ∀ w, lv w = true → fr w = fr' w ∧ to w = to' w) : sk_on fr to lv = sk_on fr' to' lv := by
  funext a b w
  unfold sk_on
  cases hl : lv w
  · rfl
  · rw [(h w hl).1, (h w hl).2]
theorem sk_out_cong {fr to sa fr' to' sa' : Nat → Nat} {lv : Nat → Bool} (h : ∀ w, lv w = true → fr w = fr' w ∧ to w = to' w ∧ sa w = sa' w) (a b e : Nat) : ∀ k, sk_out fr to sa lv a b e k = sk_out fr' to' sa' lv a b e k
  | 0 => rfl
  | w + 1 => by
    have hon := sk_on_cong (fun w hw => ⟨(h w hw).1, (h w hw).2.1⟩ : ∀ w, lv w = true → fr w = fr' w ∧ to w = to' w)
    rw [sk_out, sk_out, sk_out_cong h a b e w, ← hon]
    congr 1
    cases hl : lv w
    · have : sk_on fr to lv a b w = false := by simp [sk_on, hl]
      rw [this]; rfl
    · unfold sk_ot; rw [(h w hl).1, (h w hl).2.1, (h w hl).2.2]
theorem sk_ws_cong {fr to sa fr' to' sa' : Nat → Nat} {lv : Nat → Bool} (h : ∀ w, lv w = true → fr w = fr' w ∧ to w = to' w ∧ sa w = sa' w) (a b e : Nat) : ∀ k, sk_ws fr to sa lv a b e k = sk_ws fr' to' sa' lv a b e k
  | 0 => rfl
  | w + 1 => by
    have hon := sk_on_cong (fun w hw => ⟨(h w hw).1, (h w hw).2.1⟩ : ∀ w, lv w = true → fr w = fr' w ∧ to w = to' w)
    rw [sk_ws, sk_ws, sk_ws_cong h a b e w, ← hon]
    congr 1
    cases hl : lv w
    · have : sk_on fr to lv a b w = false := by simp [sk_on, hl]
      rw [this]; rfl
    · rw [(h w hl).2.2]
theorem sk_go_cong {fr to sa fr' to' sa' : Nat → Nat} {lv : Nat → Bool} {kp : Nat → Nat → Nat → Nat} (h : ∀ w, lv w = true → fr w = fr' w ∧ to w = to' w ∧ sa w = sa' w) : ∀ (f : Nat) (q : List (Nat × Nat × Nat)) (bn : Nat → Bool) (kt : Nat → Nat) (ws : Nat), sk_go fr to sa lv kp f q bn kt ws = sk_go fr' to' sa' lv kp f q bn kt ws := by
  have hon := sk_on_cong (fun w hw => ⟨(h w hw).1, (h w hw).2.1⟩ : ∀ w, lv w = true → fr w = fr' w ∧ to w = to' w)
  have hcn : ∀ a b, sk_cn fr to lv a b = sk_cn fr' to' lv a b := fun a b => by unfold sk_cn; rw [hon]
  intro f
  induction f with
  | zero => intro q bn kt ws; rfl
  | succ f ih =>
    intro q bn kt ws
    cases q with
    | nil => rfl
    | cons x q =>
      obtain ⟨a, p, b⟩ := x
      rw [sk_go, sk_go]
      simp only [hcn, sk_out_cong h, sk_ws_cong h]
      exact ih _ _ _ _
/-- the same belt, but for what stands in the place behind the last wire -/
def eqv (D' D : Nat → Nat) : Prop := ∀ j, ¬ (16 + 4 * D 84 ≤ j ∧ j < 16 + 4 * D 84 + 4) → D' j = D j
theorem eqv.rfl' {D : Nat → Nat} : eqv D D := fun _ _ => rfl
theorem eqv.h84 {D' D : Nat → Nat} (h : eqv D' D) (h84 : D 84 ≤ 16) : D' 84 = D 84 := h 84 (by omega)
theorem eqv.w {D' D : Nat → Nat} (h : eqv D' D) {w q : Nat} (hw : w < D 84) (hq : q < 4) : bk_w D' w q = bk_w D w q := h _ (by omega)
theorem eqv.tht {D' D : Nat → Nat} (h : eqv D' D) (h84 : D 84 ≤ 16) (x y : Nat) : thD D' x y = thD D x y := by
  funext j
  unfold thD
  rw [h.h84 h84]
  repeat' split
  all_goals first | rfl | (exact h _ (by omega))
theorem eqv.run {D' D : Nat → Nat} (h : eqv D' D) (h84 : D 84 ≤ 16) (kp : Nat → Nat → Nat → Nat) (x v : Nat) : dk_run D' kp x v = dk_run D kp x v := by
  have hl : dk_lv D' = dk_lv D := by
    funext w
    unfold dk_lv bk_lv
    rw [h.h84 h84]
    by_cases z : w < D 84
    · rw [h.w z (by omega), h.w z (by omega)]
    · simp [z]
  unfold dk_run sk_run
  rw [hl]
  exact sk_go_cong (fun w hw => by
    have : w < D 84 := by simp only [dk_lv, Bool.and_eq_true, decide_eq_true_eq] at hw; exact hw.1
    exact ⟨h.w this (by omega), h.w this (by omega), h.w this (by omega)⟩) _ _ _ _ _
theorem eqv.ok {D' D : Nat → Nat} {n : Nat} {E : Nat → Nat} {dry : Nat} (h : eqv D' D) (hb : bk_ok n E D dry) : bk_ok n E D' dry := by
  have h84 := hb.2.2.2.1
  refine hb.chg (h.h84 h84) (fun k hk => h k (by omega)) (by rw [h 85 (by omega)]; exact hb.2.2.2.2.1) (by rw [h 86 (by omega)]; exact hb.2.2.2.2.2.1) (fun w hw => ⟨h.w hw (by omega), h.w hw (by omega), ?_, ?_⟩)
  · rw [h.w hw (by omega)]; exact (hb.2.2.2.2.2.2.2.2 w hw).2.2.2.1
  · rw [h.w hw (by omega)]; exact (hb.2.2.2.2.2.2.2.2 w hw).2.2.2.2
theorem eqv.C {D' D : Nat → Nat} {n : Nat} {E : Nat → Nat} {dry : Nat} {u : ax_S} (h : eqv D' D) (hb : bk_ok n E D dry) (hC : bk_C u n E D dry) : bk_C u n E D' dry := by
  have h84 := hb.2.2.2.1
  refine hC.chg (D' := D') (fun c i _ => rfl) (h.h84 h84) (fun k hk => h k (by omega)) hb.2.1 (fun w hw => ⟨h.w hw (by omega), h.w hw (by omega)⟩) (fun w hw => ?_) (fun i hi => ?_) (by rw [h 85 (by omega)]; exact hC.2.2.1) (by rw [h 86 (by omega)]; exact hC.2.2.2.2.1)
  · rw [h.w hw (by omega)]; exact (hC.2.2.2.2.2.2.1 w hw).2.2
  · rw [hC.2.2.2.2.2.2.2.1 i hi]
    by_cases z : i < D 84
    · rw [h.w z (by omega)]
    · simp [z]
theorem hi_C.eqv {σ : ax_S} {n a T : Nat} {D' D : Nat → Nat} {H : Nat → Nat → Nat} (h : hi_C σ n a T D H) (hD : ∀ j, 87 ≤ j → D' j = D j) : hi_C σ n a T D' H := by
  obtain ⟨nx, te, x1, x2, x3, x4, ⟨l1, l2⟩, x6, x8⟩ := h
  exact ⟨nx, te, x1, x2, x3, x4, ⟨by rw [hD 87 (by omega)]; exact l1, fun i k hi hk => by rw [hD 87 (by omega)] at hi ⊢; rw [hD _ (by omega)]; exact l2 i k hi hk⟩, x6, x8⟩
def thS (c i : Nat) : Prop := scr c i ∨ (c = 5 ∧ i = 11) ∨ (28 ≤ c ∧ c ≤ 31)
def IC (σ : ax_S) (n : Nat) (E D : Nat → Nat) (dry : Nat) (u : ax_S) : Prop := fo thS u σ ∧ bk_C u n E D dry ∧ bk_sm u
def tmS (c i : Nat) : Prop := scm c i ∨ c = 15
def IM (τ : ax_S) (n : Nat) (E D : Nat → Nat) (dry : Nat) (w : ax_S) : Prop := fo tmS w τ ∧ ∃ D', eqv D' D ∧ lg_ok D' ∧ bk_M w n E D' dry
theorem RR.thought {j : Nat} {σ τ : ax_S} (h : RR j σ τ) : ∃ (n : Nat) (E D : Nat → Nat) (dry lw ho : Nat) (L : Nat → List (List (Nat × Nat) × List (Nat × Nat))),
    bk_ok n E D dry ∧ lg_ok D ∧ lwok lw ho L ∧ bk_C σ n E D dry ∧ bk_sm σ ∧ bk_M τ n E D dry ∧ lwC σ lw ho L ∧ lwM τ lw ho L ∧ ∀ u w, IC σ n E D dry u → IM τ n E D dry w → RR (j + 1) u w := by
  obtain ⟨n, E, D, dry, lw, ho, L, a, T, H, hb, hlg, hlw, hh, hT, hCB, hMB, hlC, hlM, hnext⟩ := h.belt
  refine ⟨n, E, D, dry, lw, ho, L, hb, hlg, hlw, hCB.1, hCB.2.1, hMB.1, hlC, hlM, ?_⟩
  rintro u w ⟨fC, u1, u2⟩ ⟨fM, D', hD', hl', w1⟩
  have h84 := hb.2.2.2.1
  refine hnext D' a T H u w (hD'.ok hb) hl' hh (by omega) (fun c i hc => fC.1 c i (fun z => hc ?_)) ⟨by rw [fC.2], by rw [fC.2]⟩ (fun c i hc => fM.1 c i (fun z => hc ?_)) ⟨hD'.C hb u1, u2, ?_⟩ ⟨w1, hMB.2.to fM.1 (fun c i hs => by unfold tmS scm at hs; omega)⟩
  · unfold thS scr at z; unfold SB rd_S scC scr; omega
  · unfold tmS scm at z; unfold SM scM scm; omega
  · exact (hCB.2.2.to fC.1 (fun c i hs => by unfold thS scr at hs; omega)).eqv (fun j hj => hD' j (by omega))
/-- the class's strokes with a wire that is thought of -/
theorem th_sk {u : ax_S} {n : Nat} {E D : Nat → Nat} {dry x y : Nat} (hb : bk_ok n E D dry) (hC : bk_C u n E D dry) (ht : th_C u n (D 84) x y) : sk_C u (pn_set (D 84) (bk_lv D) ||| (1 : Int32) <<< (nI (D 84) &&& 31)) n (fun w => bk_w (thD D x y) w 0) (fun w => bk_w (thD D x y) w 1) (fun w => bk_w (thD D x y) w 2) (dk_lv (thD D x y)) (thD D x y) := by
  obtain ⟨h1, h2, h3, h4, h5, h6, h7, h8, h9⟩ := hb
  obtain ⟨c1, c2, c3, c4, c5, c6, c7, c8, c9⟩ := hC
  obtain ⟨t1, t2, t3, t4⟩ := ht
  have a0 : bk_w (thD D x y) (D 84) 0 = x := thD_0 x y h4
  have a1 : bk_w (thD D x y) (D 84) 1 = y := thD_1 x y h4
  have a2 : bk_w (thD D x y) (D 84) 2 = 0 := thD_2 x y h4
  have a3 : bk_w (thD D x y) (D 84) 3 = 0 := thD_3 x y h4
  have hlt : ∀ w, dk_lv (thD D x y) w = true → w < D 84 + 1 := fun w hw => by
    simp only [dk_lv, Bool.and_eq_true, decide_eq_true_eq, thD_84] at hw; exact hw.1
  refine ⟨c1, ⟨D 84, c2, h4, fun w hw => by have := hlt w hw; omega⟩, fun i hi => ?_, fun w hw => ?_, fun h hh w hw => ?_, fun h hh => ?_⟩
  · rw [b_or, pn_set_bt (bk_lv D) (D 84) (by omega) i hi, pn_one (D 84) (by omega) i hi]
    unfold dk_lv bk_lv
    rw [thD_84]
    by_cases e : i = D 84
    · rw [e, a2, a3]; simp
    · by_cases z : i < D 84
      · rw [thD_w h4 z (by omega), thD_w h4 z (by omega)]
        have : i < D 84 + 1 := by omega
        simp [z, e, this]
      · have : ¬ i < D 84 + 1 := by omega
        simp [z, e, this]
  · have hw' := hlt w hw
    by_cases e : w = D 84
    · rw [e]
      show u.1 28 (D 84) = nI (bk_w (thD D x y) (D 84) 0) ∧ u.1 29 (D 84) = nI (bk_w (thD D x y) (D 84) 1) ∧ u.1 30 (D 84) = nI (bk_w (thD D x y) (D 84) 2)
      rw [a0, a1, a2]; exact ⟨t1, t2, t3⟩
    · show u.1 28 w = nI (bk_w (thD D x y) w 0) ∧ u.1 29 w = nI (bk_w (thD D x y) w 1) ∧ u.1 30 w = nI (bk_w (thD D x y) w 2)
      rw [thD_w h4 (by omega) (by omega), thD_w h4 (by omega) (by omega), thD_w h4 (by omega) (by omega)]; exact c7 w (by omega)
  · have hw' := hlt w hw
    by_cases e : w = D 84
    · rw [e]
      show _ = (decide (bk_w (thD D x y) (D 84) 0 = h) || decide (bk_w (thD D x y) (D 84) 1 = h))
      rw [a0, a1]; exact t4 h hh
    · show _ = (decide (bk_w (thD D x y) w 0 = h) || decide (bk_w (thD D x y) w 1 = h))
      rw [thD_w h4 (by omega) (by omega), thD_w h4 (by omega) (by omega)]; exact c9 h hh w (by omega)
  · have : thD D x y h = D h := thD_ne (by omega) (by omega)
    rw [this]; exact ⟨(c6 h hh).2.2.2.1, (h8 h hh).2.2.2.2.2.1⟩
theorem th_ok {n : Nat} {E D : Nat → Nat} {dry x y : Nat} (hb : bk_ok n E D dry) (hx : x < n) (hy : y < n) (hxy : x ≠ y) {kp : Nat → Nat → Nat → Nat} (hkp : ∀ h p c, kp h p c ≤ p) : dk_ok n (thD D x y) kp := by
  obtain ⟨h1, h2, h3, h4, h5, h6, h7, h8, h9⟩ := hb
  refine ⟨h2, by rw [thD_84]; omega, fun w hw => ?_, fun h hh => by rw [thD_ne (by omega) (by omega)]; exact (h8 h hh).2.2.2.2.2.1, hkp⟩
  rw [thD_84] at hw
  by_cases e : w = D 84
  · have a0 : bk_w (thD D x y) w 0 = x := by rw [e]; exact thD_0 x y h4
    have a1 : bk_w (thD D x y) w 1 = y := by rw [e]; exact thD_1 x y h4
    have a2 : bk_w (thD D x y) w 2 = 0 := by rw [e]; exact thD_2 x y h4
    have a3 : bk_w (thD D x y) w 3 = 0 := by rw [e]; exact thD_3 x y h4
    rw [a0, a1, a2, a3]; exact ⟨hx, hy, hxy, by omega, by omega⟩
  · rw [thD_w h4 (by omega) (by omega), thD_w h4 (by omega) (by omega), thD_w h4 (by omega) (by omega), thD_w h4 (by omega) (by omega)]; exact h9 w (by omega)
theorem ct_X11_liveWith {d : Nat} (hd : 4 ≤ d) {σ u : ax_S} {n : Nat} {E D : Nat → Nat} {dry x y : Nat} (hb : bk_ok n E D dry) (hu : IC σ n E D dry u) (hx : x < n) (hy : y < n) :
    ax_Ct shC d mX11_liveWith [ax_r 0, ax_i (nI x), ax_i (nI y)] (fun r w => r = some (ax_i (pn_set (D 84) (bk_lv D) ||| (1 : Int32) <<< (nI (D 84) &&& 31))) ∧ IC σ n E D dry w ∧ th_C w n (D 84) x y) u := by
  obtain ⟨d, rfl⟩ : ∃ e, d = e + 1 := ⟨d - 1, by omega⟩
  refine ax_Ct.of (lv := [some (ax_r 0), some (ax_i (nI x)), some (ax_i (nI y))]) (by decide +kernel) (fun ad => Nat.le_of_ble_eq_true rfl) (fun ad => rfl) ?_
  refine s_X11_liveWith_0 (by omega) u _ _ ?_
  refine (ct_X0_think (by omega) hb hu.2.1 hu.2.2 hx hy).mono ?_
  rintro r w ⟨rfl, w1, w2, w3, w4⟩
  refine ⟨rfl, s_X11_liveWith_9 (by omega) w ?_⟩
  refine (ct_live (by omega) hb w2).mono (fun r t ht => ⟨_, ht.1, s_X11_liveWith_16 (by omega) t _ ?_⟩)
  obtain ⟨-, rfl⟩ := ht
  rw [w2.2.1]
  exact ⟨rfl, ⟨(w1.mono (fun c i h => by unfold thS; omega)).trans hu.1, w2, w3⟩, w4⟩
theorem IC.st {σ u w : ax_S} {n : Nat} {E D : Nat → Nat} {dry : Nat} (h : IC σ n E D dry u) (hf : fo scr w u) : IC σ n E D dry w :=
  ⟨(hf.mono (fun c i h => Or.inl h)).trans h.1, h.2.1.to hf.1 (fun c i h => by unfold scr at h; omega), h.2.2.to hf.1 (fun c i h => by unfold scr at h; omega)⟩
theorem th_C.st {u w : ax_S} {n m x y : Nat} (h : th_C u n m x y) (hf : fo scr w u) : th_C w n m x y := by
  unfold th_C at h ⊢
  rw [hf.1 28 m (by unfold scr; omega), hf.1 29 m (by unfold scr; omega), hf.1 30 m (by unfold scr; omega)]
  exact ⟨h.1, h.2.1, h.2.2.1, fun k hk => by rw [hf.1 31 k (by unfold scr; omega)]; exact h.2.2.2 k hk⟩
theorem IC.K {σ u : ax_S} {n : Nat} {E D : Nat → Nat} {dry lw ho : Nat} {L : Nat → List (List (Nat × Nat) × List (Nat × Nat))} (h : IC σ n E D dry u) (hb : bk_ok n E D dry) (hlw : lwok lw ho L) (hlC : lwC σ lw ho L) : sk_K u n (kpf E D dry ho L) :=
  skK_of hlw (st_H hb h.2.1) (hlC.to h.1.1 (fun c i hs => by unfold thS scr at hs; omega)) hb.2.1
theorem kpf_cong {E D D' : Nat → Nat} {dry ho : Nat} {L : Nat → List (List (Nat × Nat) × List (Nat × Nat))} {h p c : Nat} (e : D' h = D h) : kpf E D' dry ho L h p c = kpf E D dry ho L h p c := by
  unfold kpf; rw [e]
theorem mk_K.cong {τ : ax_S} {n : Nat} {kp kp' : Nat → Nat → Nat → Nat} (h : mk_K τ n kp) (e : ∀ h p c, h < n → kp' h p c = kp h p c) : mk_K τ n kp' := fun u h' p c hu hh hp hc1 hc => by
  rw [e h' p c hh]; exact h u h' p c hu hh hp hc1 hc
/-- the reference's strokes over any belt that has the same houses -/
theorem mK_any {τ w : ax_S} {n : Nat} {E D D' : Nat → Nat} {dry lw ho : Nat} {L : Nat → List (List (Nat × Nat) × List (Nat × Nat))} (hb : bk_ok n E D dry) (hlw : lwok lw ho L) (hlM : lwM τ lw ho L) (hf : fo tmS w τ) (h24 : τ.1 0 24 = nI dry) (hE : ∀ h k, h < n → k < 4 → τ.1 14 (4 * h + k) = nI (E (4 * h + k))) (hm : mD w D') (hD : ∀ h, h < n → D' h = D h) : mk_K w n (kpf E D dry ho L) := by
  have h8 := hb.2.2.2.2.2.2.2.1
  have hH : hsM w n E D' dry := ⟨by rw [hf.1 0 24 (by unfold tmS scm; omega)]; exact h24, hb.2.2.1, hm, fun h hh => ⟨by rw [hf.1 14 _ (by unfold tmS scm; omega)]; exact hE h 1 hh (by omega), by rw [hf.1 14 _ (by unfold tmS scm; omega)]; exact hE h 3 hh (by omega), (h8 h hh).2.2.1, by rw [hD h hh]; exact (h8 h hh).2.2.2.2.2.1, (h8 h hh).2.2.2.1⟩⟩
  exact (mkK_of hlw hH (hlM.to hf.1 (fun c i hs => by unfold tmS scm at hs; omega)) hb.2.1).cong (fun h p c hh => (kpf_cong (hD h hh)).symm)
theorem pn_cnt {n : Nat} {p : Nat → Bool} (hn : n ≤ 8) : v_J6_bitCount_0f7a4 (pn_set n p) = nI (fb_ct p n) := by
  rw [bc_mask (fun i h1 h2 => by rw [pn_set_bt p n (by omega) i h2]; have : ¬ i < n := by omega
                                 simp [this])]
  congr 1
  have e1 : fb_ct (bt (pn_set n p)) 17 = fb_ct (bt (pn_set n p)) (n + (17 - n)) := by congr 1; omega
  rw [e1, fb_ct_split]
  have e2 : fb_ct (fun k => bt (pn_set n p) (n + k)) (17 - n) = 0 := fb_ct_zero.mpr (fun k hk => by
    rw [pn_set_bt p n (by omega) (n + k) (by omega), decide_eq_false (by omega)]; rfl)
  rw [e2, Nat.add_zero]
  exact fb_ct_cong (fun k hk => by rw [pn_set_bt p n (by omega) k (by omega)]; simp [hk])
