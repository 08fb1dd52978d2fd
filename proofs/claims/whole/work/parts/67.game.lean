/-! ===== the most that a house keeps; games ===== -/
def mok (D : Nat → Nat) (kp : Nat → Nat → Nat → Nat) (x y z v : Nat) : Nat := max ((dk_run D kp y v).1 x) ((dk_run D kp z v).1 x)
theorem ct_X11_mostKept {d : Nat} (hd : 11 ≤ d) {σ : ax_S} {live : Int32} {n : Nat} {D : Nat → Nat} {kp : Nat → Nat → Nat → Nat} (hok : dk_ok n D kp) (hC : sk_C σ live n (fun w => bk_w D w 0) (fun w => bk_w D w 1) (fun w => bk_w D w 2) (dk_lv D) D) (hK : sk_K σ n kp) {x y v : Nat} (hx : x < n) (hy : y < n) (hv1 : 1 ≤ v) (hv : v ≤ 999) :
    ax_Ct shC d mX11_mostKept [ax_r 0, ax_i live, ax_i (nI x), ax_i (nI y), ax_i (nI v)] (fun r u => r = some (ax_i (nI (mok D kp x x y v))) ∧ fo scr u σ) σ := by
  obtain ⟨d, rfl⟩ : ∃ e, d = e + 1 := ⟨d - 1, by omega⟩
  have hn := hok.1
  refine ax_Ct.of (lv := [some (ax_r 0), some (ax_i live), some (ax_i (nI x)), some (ax_i (nI y)), some (ax_i (nI v)), none]) (by decide +kernel) (fun ad => Nat.le_of_ble_eq_true rfl) (fun ad => rfl) ?_
  refine s_X11_mostKept_0 (by omega) σ _ _ _ _ ?_
  refine (fl_C (by omega) hok hC hK fo.rfl' hx hv1 hv).mono ?_
  rintro r u ⟨rfl, u1, u2, -⟩
  refine ⟨_, rfl, s_X11_mostKept_11 (by omega) u _ _ _ _ _ (n_in _ _) ?_⟩
  refine (fl_C (by omega) hok hC hK u1 hy hv1 hv).mono ?_
  rintro r w ⟨rfl, w1, w2, -⟩
  refine ⟨_, rfl, s_X11_mostKept_34 (by omega) w _ _ _ (n_in _ _) ⟨?_, w1⟩⟩
  have b1 := dk_run_k hok hx hv1 hx
  have b2 := dk_run_k hok hy hv1 hx
  rw [n_tn x, u2 x (by omega), w2 x (by omega), n_max _ _]
  rfl
theorem ct_X12_mostKept {d : Nat} (hd : 12 ≤ d) {τ w : ax_S} {n : Nat} {D : Nat → Nat} {kp : Nat → Nat → Nat → Nat} (hok : dk_ok n D kp) (hm : mD τ D) (hK : mk_K τ n kp) (hw : fo scm w τ) {x y z v : Nat} (hx : x < n) (hy : y < n) (hz : z < n) (hv1 : 1 ≤ v) (hv : v ≤ 999) :
    ax_Ct shM d mX12_mostKept [ax_r 0, ax_i (nI x), ax_i (nI y), ax_i (nI z), ax_i (nI v)] (fun r u => r = some (ax_i (nI (mok D kp x y z v))) ∧ fo scm u τ) w := by
  obtain ⟨d, rfl⟩ : ∃ e, d = e + 1 := ⟨d - 1, by omega⟩
  have hn := hok.1
  refine ax_Ct.of (lv := [some (ax_r 0), some (ax_i (nI x)), some (ax_i (nI y)), some (ax_i (nI z)), some (ax_i (nI v))]) (by decide +kernel) (fun ad => Nat.le_of_ble_eq_true rfl) (fun ad => rfl) ?_
  refine s_X12_mostKept_0 (by omega) w _ _ _ _ ?_
  refine (kf_M (by omega) hok hm hK hw hy hv1 hv hx).mono ?_
  rintro r u ⟨rfl, u1⟩
  refine ⟨_, rfl, s_X12_mostKept_8 (by omega) u _ _ _ _ ?_⟩
  refine (kf_M (by omega) hok hm hK u1 hz hv1 hv hx).mono ?_
  rintro r w ⟨rfl, w1⟩
  have b1 := dk_run_k hok hy hv1 hx
  have b2 := dk_run_k hok hz hv1 hx
  refine ⟨_, rfl, s_X12_mostKept_16 (by omega) w _ _ ⟨?_, w1⟩⟩
  rw [n_max _ _]; rfl
/-- what the one has, joined or not -/
def gmD (D : Nat → Nat) (x y : Nat) (t : Bool) : Nat → Nat := if t then thD D x y else D
def gm (D : Nat → Nat) (kp : Nat → Nat → Nat → Nat) (x y v : Nat) (t : Bool) : Int32 := nI (D x) - nI (mok (gmD D x y t) kp x x y v)
theorem ct_X11_gain {d : Nat} (hd : 12 ≤ d) {σ u : ax_S} {n : Nat} {E D : Nat → Nat} {dry lw ho : Nat} {L : Nat → List (List (Nat × Nat) × List (Nat × Nat))} (hb : bk_ok n E D dry) (hlw : lwok lw ho L) (hlC : lwC σ lw ho L) (hu : IC σ n E D dry u) {x y v : Nat} (t : Bool) (hx : x < n) (hy : y < n) (hxy : x ≠ y) (hv1 : 1 ≤ v) (hv : v ≤ 999) :
    ax_Ct shC d mX11_gain [ax_r 0, ax_i (nI x), ax_i (nI y), ax_i (nI v), ax_i (if t then 1 else 0)] (fun r w => r = some (ax_i (gm D (kpf E D dry ho L) x y v t)) ∧ IC σ n E D dry w) u := by
  obtain ⟨d, rfl⟩ : ∃ e, d = e + 1 := ⟨d - 1, by omega⟩
  have hn := hb.2.1
  have hkp := kpf_le E D dry ho L
  refine ax_Ct.of (lv := [some (ax_r 0), some (ax_i (nI x)), some (ax_i (nI y)), some (ax_i (nI v)), some (ax_i (if t then 1 else 0)), none]) (by decide +kernel) (fun ad => Nat.le_of_ble_eq_true rfl) (fun ad => rfl) ?_
  cases t with
  | false =>
    refine s_X11_gain_0 (by omega) u _ _ _ _ (fun _ => ?_) (fun c => absurd (by decide) c)
    refine (ct_live (by omega) hb hu.2.1).mono ?_
    rintro r w ⟨rfl, rfl⟩
    refine ⟨_, rfl, s_X11_gain_22 (by omega) w _ _ _ _ (n_in _ _) ?_⟩
    refine (ct_X11_mostKept (by omega) (st_ok hb hkp) (st_C hb hu.2.1) (hu.K hb hlw hlC) hx hy hv1 hv).mono ?_
    rintro r t ⟨rfl, t1⟩
    refine ⟨_, rfl, s_X11_gain_42 (by omega) t _ _ ⟨?_, hu.st t1⟩⟩
    rw [n_tn x, (hu.2.1.2.2.2.2.2.1 x hx).2.2.2.1]; rfl
  | true =>
    refine s_X11_gain_0 (by omega) u _ _ _ _ (fun c => absurd rfl c) (fun _ => ?_)
    refine (ct_X11_liveWith (by omega) hb hu hx hy).mono ?_
    rintro r w ⟨rfl, w1, w2⟩
    refine ⟨_, rfl, s_X11_gain_12 (by omega) w _ _ _ _ (n_in _ _) ?_⟩
    refine (ct_X11_mostKept (by omega) (th_ok hb hx hy hxy hkp) (th_sk hb w1.2.1 w2) (w1.K hb hlw hlC) hx hy hv1 hv).mono ?_
    rintro r t ⟨rfl, t1⟩
    refine ⟨_, rfl, s_X11_gain_42 (by omega) t _ _ ⟨?_, w1.st t1⟩⟩
    rw [n_tn x, (w1.2.1.2.2.2.2.2.1 x hx).2.2.2.1]; rfl
theorem IM.st {τ u w : ax_S} {n : Nat} {E D : Nat → Nat} {dry : Nat} (h : IM τ n E D dry u) (hf : fo scm w u) : IM τ n E D dry w := by
  obtain ⟨h1, D', h2, h3, h4⟩ := h
  exact ⟨(hf.mono (fun c i h => Or.inl h)).trans h1, D', h2, h3, h4.to hf.1 (fun c i h => by unfold scm at h; omega)⟩
theorem ui_self (σ : ax_S) (c i : Nat) : ax_ui σ c i (σ.1 c i) = σ := by
  refine Prod.ext ?_ rfl
  funext c' j
  rw [ui_any]
  split
  · rename_i h; rw [h.1, h.2]
  · rfl
/-- a wire strung and taken off again -/
theorem IM.off {τ w : ax_S} {n : Nat} {E D : Nat → Nat} {dry x y : Nat} (hb : bk_ok n E D dry) (hx : x < n) (hy : y < n) (h0 : bk_M τ n E D dry) (hl : lg_ok D) (hf : fo tmS w τ) (hm : mD w (thD D x y)) : IM τ n E D dry (ax_ui w 15 84 (nI (D 84))) := by
  have hn := hb.2.1
  have h84 := hb.2.2.2.1
  refine ⟨hf.ui (Or.inr rfl), dset (thD D x y) 84 (D 84), fun j hj => ?_, ⟨?_, fun j hj => ?_⟩, ?_, ?_, hm.set 84 (D 84), fun h k hh hk => ?_⟩
  · unfold dset
    split
    · rename_i z; rw [z]
    · rename_i z; exact thD_ne z hj
  · rw [dset_ne (by omega), thD_ne (by omega) (by omega)]; exact hl.1
  · have := thD_lg hl h84 (show x < 8 by omega) (show y < 8 by omega)
    unfold dset
    split
    · omega
    · exact this.2 j hj
  · rw [ui_cell (by omega), hf.1 0 23 (by unfold tmS scm; omega)]; exact h0.1
  · rw [ui_cell (by omega), hf.1 0 24 (by unfold tmS scm; omega)]; exact h0.2.1
  · rw [ui_cell (by omega), hf.1 14 _ (by unfold tmS scm; omega)]; exact h0.2.2.2 h k hh hk
/-- the row with a wire strung, as the reference writes it -/
def stg (u : ax_S) (m x y : Nat) : ax_S := ax_ui (ax_ui (ax_ui (ax_ui (ax_ui u 15 84 (nI (m + 1))) 15 (16 + 4 * m + 0) (nI x)) 15 (16 + 4 * m + 1) (nI y)) 15 (16 + 4 * m + 2) 0) 15 (16 + 4 * m + 3) 0
theorem stg_fo (u : ax_S) (m x y : Nat) : fo (fun c _ => c = 15) (stg u m x y) u := ((((fo.rfl'.ui (by omega)).ui (by omega)).ui (by omega)).ui (by omega)).ui (by omega)
theorem stg_D {u : ax_S} {D : Nat → Nat} (hm : mD u D) (h84 : D 84 ≤ 16) (x y : Nat) : mD (stg u (D 84) x y) (thD D x y) := by
  refine (((((hm.set 84 (D 84 + 1)).set (16 + 4 * D 84 + 0) x).set (16 + 4 * D 84 + 1) y).set (16 + 4 * D 84 + 2) 0).set (16 + 4 * D 84 + 3) 0).cong (fun j hj => ?_)
  unfold thD dset
  repeat' split
  all_goals first | rfl | omega
theorem ct_X12_gameOf {d : Nat} (hd : 13 ≤ d) {τ u : ax_S} {n : Nat} {E D : Nat → Nat} {dry lw ho : Nat} {L : Nat → List (List (Nat × Nat) × List (Nat × Nat))} (hb : bk_ok n E D dry) (hlg : lg_ok D) (hlw : lwok lw ho L) (hlM : lwM τ lw ho L) (h0 : bk_M τ n E D dry) (hu : IM τ n E D dry u) {x y v : Nat} (t : Bool) (hx : x < n) (hy : y < n) (hxy : x ≠ y) (hv1 : 1 ≤ v) (hv : v ≤ 999) :
    ax_Ct shM d mX12_gameOf [ax_r 0, ax_i (nI x), ax_i (nI y), ax_i (nI v), ax_i (if t then 1 else 0)] (fun r w => r = some (ax_i (gm D (kpf E D dry ho L) x y v t)) ∧ IM τ n E D dry w) u := by
  obtain ⟨d, rfl⟩ : ∃ e, d = e + 1 := ⟨d - 1, by omega⟩
  have hn := hb.2.1
  have h84 := hb.2.2.2.1
  have hkp := kpf_le E D dry ho L
  have hu' := hu
  obtain ⟨fu, D', hD, hl', hM⟩ := hu'
  have e84 : u.1 15 84 = nI (D 84) := by rw [hM.2.2.1 84 (by omega), hD.h84 h84]
  have ex : (0 : Int32) + nI x = nI x := n_0 x
  have eDx : D' x = D x := hD x (by omega)
  refine ax_Ct.of (lv := [some (ax_r 0), some (ax_i (nI x)), some (ax_i (nI y)), some (ax_i (nI v)), some (ax_i (if t then 1 else 0)), none]) (by decide +kernel) (fun ad => Nat.le_of_ble_eq_true rfl) (fun ad => rfl) ?_
  cases t with
  | false =>
    refine s_X12_gameOf_0 (by omega) u _ _ _ _ (fun _ => by rw [ex]; exact n_in _ _) (fun _ => ?_) (fun c => absurd rfl c) (fun c => absurd rfl c) (fun c => absurd rfl c) (fun c => absurd rfl c) (fun c => absurd rfl c) (fun c => absurd rfl c)
    refine (ct_X12_mostKept (by omega) (st_ok (hD.ok hb) hkp) hM.2.2.1 (mK_any hb hlw hlM fu h0.2.1 h0.2.2.2 hM.2.2.1 (fun h hh => hD h (by omega))) fo.rfl' hx hx hy hv1 hv).mono ?_
    rintro r w ⟨rfl, w1⟩
    refine ⟨_, rfl, s_X12_gameOf_29 (by omega) w _ _ _ ⟨?_, ?_⟩⟩
    · rw [ex, n_tn x, hM.2.2.1 x (by omega), eDx]
      unfold gm gmD mok
      rw [hD.run h84, hD.run h84]; rfl
    · have e2 : w.1 15 84 - (if ¬ ((if false = true then (1 : Int32) else 0) = 0) then 1 else 0) = w.1 15 84 := by
        rw [if_neg (by decide), w1.1 15 84 (by unfold scm; omega), e84]; exact n_sub (D 84) 0
      rw [e2, ui_self]
      exact hu.st w1
  | true =>
    have i0 : (16 : Int32) + 4 * nI (D 84) + 0 = nI (16 + 4 * D 84 + 0) := n_w _ 0
    have i1 : (16 : Int32) + 4 * nI (D 84) + 1 = nI (16 + 4 * D 84 + 1) := n_w _ 1
    have i2 : (16 : Int32) + 4 * nI (D 84) + 2 = nI (16 + 4 * D 84 + 2) := n_w _ 2
    have i3 : (16 : Int32) + 4 * nI (D 84) + 3 = nI (16 + 4 * D 84 + 3) := n_w _ 3
    have fs := stg_fo u (D 84) x y
    have ms : mD (stg u (D 84) x y) (thD D x y) := by
      have := stg_D hM.2.2.1 (by rw [hD.h84 h84]; exact h84) x y
      rw [hD.h84 h84, hD.tht h84] at this; exact this
    have f2 : fo tmS (stg u (D 84) x y) τ := (fs.mono (fun c i h => Or.inr h)).trans fu
    refine s_X12_gameOf_0 (by omega) u _ _ _ _ (fun c => absurd c (by decide)) (fun c => absurd c (by decide)) (fun _ => by rw [e84, i0]; exact n_in _ _) (fun _ => by rw [e84, i1]; exact n_in _ _) (fun _ => by rw [e84, i2]; exact n_in _ _) (fun _ => by rw [e84, i3]; exact n_in _ _) (fun _ => by rw [ex]; exact n_in _ _) (fun _ => ?_)
    rw [e84, i0, i1, i2, i3, n_tn _, n_tn _, n_tn _, n_tn _, nI_1, ex, n_tn x]
    refine (ct_X12_mostKept (by omega) (th_ok hb hx hy hxy hkp) ms (mK_any hb hlw hlM f2 h0.2.1 h0.2.2.2 ms (fun h hh => thD_ne (by omega) (by omega))) fo.rfl' hx hx hy hv1 hv).mono ?_
    rintro r w ⟨rfl, w1⟩
    refine ⟨_, rfl, s_X12_gameOf_29 (by omega) w _ _ _ ⟨?_, ?_⟩⟩
    · have : (stg u (D 84) x y).1 15 x = nI (D x) := by rw [ms x (by omega), thD_ne (by omega) (by omega)]
      unfold stg at this
      rw [this]; rfl
    · have e2 : w.1 15 84 - (if ¬ ((if true = true then (1 : Int32) else 0) = 0) then 1 else 0) = nI (D 84) := by
        rw [if_pos (by decide), w1.1 15 84 (by unfold scm; omega), ms 84 (by omega), thD_84]; exact n_sub (D 84 + 1) 1
      rw [e2]
      exact IM.off hb hx hy h0 hlg ((w1.mono (fun c i h => Or.inl h)).trans f2) (ms.to w1 scm15)
/-- two that may play -/
def plT (n : Nat) (E D : Nat → Nat) (a0 a1 : Int32) : Prop := ∃ x y, x < n ∧ y < n ∧ x ≠ y ∧ a0 = nI x ∧ a1 = nI y ∧ (chap E x y || tied D x y (D 84)) = false
theorem ct_X11_mayPlay {d : Nat} (hd : 4 ≤ d) {σ : ax_S} {n : Nat} {E D : Nat → Nat} {dry : Nat} (hb : bk_ok n E D dry) (hC : bk_C σ n E D dry) {x y v : Nat} (hx : x < n) (hy : y < n) (hxy : x ≠ y) (hv1 : 1 ≤ v) (hv : v ≤ 999) :
    ax_Ct shC d mX11_mayPlay [ax_r 0, ax_i (nI x), ax_i (nI y), ax_i (nI v)] (fun r u => r = some (ax_i (if chap E x y || tied D x y (D 84) then 0 else 1)) ∧ u = σ) σ := by
  obtain ⟨d, rfl⟩ : ∃ e, d = e + 1 := ⟨d - 1, by omega⟩
  have hn := hb.2.1
  have q1 : ¬ nI x < 0 ∧ ¬ σ.1 5 9 ≤ nI x := by rw [hC.1]; exact (is_H (nI x) n).mpr ⟨x, hx, rfl⟩
  have q2 : ¬ nI y < 0 ∧ ¬ σ.1 5 9 ≤ nI y := by rw [hC.1]; exact (is_H (nI y) n).mpr ⟨y, hy, rfl⟩
  have q3 : ¬ nI v < (1 : Int32) ∧ ¬ (999 : Int32) < nI v := (in_R (nI v) 1 999).mpr ⟨v, hv1, hv, rfl⟩
  have q4 : ¬ nI x = nI y := fun z => hxy ((n_eq x y).mp z)
  refine ax_Ct.of (lv := [some (ax_r 0), some (ax_i (nI x)), some (ax_i (nI y)), some (ax_i (nI v))]) (by decide +kernel) (fun ad => Nat.le_of_ble_eq_true rfl) (fun ad => rfl) ?_
  refine s_X11_mayPlay_0 (by omega) σ _ _ _ (fun c => absurd ⟨q1, q2, q4⟩ c) (fun _ c => absurd q3 c) (fun _ _ => ?_)
  refine (ct_X0_mayJoin (by omega) hb hC hx hy).mono ?_
  rintro r u ⟨rfl, rfl⟩
  refine ⟨_, rfl, s_X11_mayPlay_25 (by omega) u _ ⟨?_, rfl⟩⟩
  cases chap E x y || tied D x y (D 84) <;> rfl
theorem ct_X11_mayPlay_no {d : Nat} (hd : 4 ≤ d) {σ : ax_S} {n : Nat} {E D : Nat → Nat} {dry : Nat} (hb : bk_ok n E D dry) (hC : bk_C σ n E D dry) {a0 a1 a2 : Int32} (g : ¬ (plT n E D a0 a1 ∧ ∃ k, 1 ≤ k ∧ k ≤ 999 ∧ a2 = nI k)) :
    ax_Ct shC d mX11_mayPlay [ax_r 0, ax_i a0, ax_i a1, ax_i a2] (fun r u => r = some (ax_i 0) ∧ u = σ) σ := by
  have hn := hb.2.1
  by_cases g2 : (∃ x y, x < n ∧ y < n ∧ x ≠ y ∧ a0 = nI x ∧ a1 = nI y) ∧ ∃ k, 1 ≤ k ∧ k ≤ 999 ∧ a2 = nI k
  · obtain ⟨⟨x, y, hx, hy, hxy, rfl, rfl⟩, k, hk1, hk2, rfl⟩ := g2
    refine (ct_X11_mayPlay hd hb hC hx hy hxy hk1 hk2).mono (fun r u hu => ⟨?_, hu.2⟩)
    rw [hu.1]
    cases z : chap E x y || tied D x y (D 84)
    · exact absurd ⟨⟨x, y, hx, hy, hxy, rfl, rfl, z⟩, k, hk1, hk2, rfl⟩ g
    · rfl
  · obtain ⟨d, rfl⟩ : ∃ e, d = e + 1 := ⟨d - 1, by omega⟩
    refine ax_Ct.of (lv := [some (ax_r 0), some (ax_i a0), some (ax_i a1), some (ax_i a2)]) (by decide +kernel) (fun ad => Nat.le_of_ble_eq_true rfl) (fun ad => rfl) ?_
    refine s_X11_mayPlay_0 (by omega) σ _ _ _ (fun _ => ⟨rfl, rfl⟩) (fun _ _ => ⟨rfl, rfl⟩) (fun c1 c2 => ?_)
    rw [hC.1] at c1
    obtain ⟨x, hx, rfl⟩ := (is_H a0 n).mp c1.1
    obtain ⟨y, hy, rfl⟩ := (is_H a1 n).mp c1.2.1
    exact absurd ⟨⟨x, y, hx, hy, fun z => c1.2.2 (by rw [z]), rfl, rfl⟩, (in_R a2 1 999).mp c2⟩ g2
theorem ct_X12_areTwo {d : Nat} (hd : 4 ≤ d) {τ : ax_S} {n : Nat} {E D : Nat → Nat} {dry : Nat} (hb : bk_ok n E D dry) (hM : bk_M τ n E D dry) {x y : Nat} (hx : x < n) (hy : y < n) (hxy : x ≠ y) :
    ax_Ct shM d mX12_areTwo [ax_r 0, ax_i (nI x), ax_i (nI y)] (fun r u => r = some (ax_i (if chap E x y || tied D x y (D 84) then 0 else 1)) ∧ u = τ) τ := by
  obtain ⟨d, rfl⟩ : ∃ e, d = e + 1 := ⟨d - 1, by omega⟩
  have hn := hb.2.1
  have q1 : ¬ nI x < (0 : Int32) ∧ ¬ τ.1 0 23 - 1 < nI x := by rw [hM.1]; exact (is_Hm (nI x) n).mpr ⟨x, hx, rfl⟩
  have q2 : ¬ nI y < (0 : Int32) ∧ ¬ τ.1 0 23 - 1 < nI y := by rw [hM.1]; exact (is_Hm (nI y) n).mpr ⟨y, hy, rfl⟩
  have q4 : ¬ nI x = nI y := fun z => hxy ((n_eq x y).mp z)
  have ix : (4 : Int32) * nI x + 3 = nI (4 * x + 3) := n_h x 3
  have iy : (4 : Int32) * nI y + 3 = nI (4 * y + 3) := n_h y 3
  have kx := (hb.2.2.2.2.2.2.2.1 x hx).2.2.2.1
  have ky := (hb.2.2.2.2.2.2.2.1 y hy).2.2.2.1
  have ex : τ.1 14 (Int32.toNatClampNeg ((4 : Int32) * nI x + 3)) = (2 : Int32) ↔ E (4 * x + 3) = 2 := by
    rw [ix, n_tn _, hM.2.2.2 x 3 hx (by omega)]; exact n_eq _ 2
  have ey : τ.1 14 (Int32.toNatClampNeg ((4 : Int32) * nI y + 3)) = (2 : Int32) ↔ E (4 * y + 3) = 2 := by
    rw [iy, n_tn _, hM.2.2.2 y 3 hy (by omega)]; exact n_eq _ 2
  refine ax_Ct.of (lv := [some (ax_r 0), some (ax_i (nI x)), some (ax_i (nI y))]) (by decide +kernel) (fun ad => Nat.le_of_ble_eq_true rfl) (fun ad => rfl) ?_
  refine s_X12_areTwo_0 (by omega) τ _ _ (fun c => absurd q1 c) (fun _ c => absurd q2 c) (fun _ _ c => absurd c q4) (fun _ _ _ => by rw [ix]; exact n_in _ _) (fun _ _ _ _ => by rw [iy]; exact n_in _ _) (fun _ _ _ c => ?_) (fun _ _ _ c => ?_)
  · have : chap E x y = true := by
      unfold chap
      rw [Bool.and_eq_true, decide_eq_true_eq, decide_eq_true_eq]
      exact ⟨ex.mp (Classical.not_not.mp c.1), ey.mp (Classical.not_not.mp c.2)⟩
    rw [this]; exact ⟨rfl, rfl⟩
  · have : chap E x y = false := by
      cases z : chap E x y
      · rfl
      · unfold chap at z
        rw [Bool.and_eq_true, decide_eq_true_eq, decide_eq_true_eq] at z
        exact absurd ⟨not_not_intro (ex.mpr z.1), not_not_intro (ey.mpr z.2)⟩ c
    refine (ct_X12_areTied (by omega) hb hM.2.2.1 hx hy).mono ?_
    rintro r u ⟨rfl, rfl⟩
    refine ⟨_, rfl, s_X12_areTwo_36 (by omega) u _ ⟨?_, rfl⟩⟩
    rw [this]
    cases tied D x y (D 84) <;> rfl
theorem ct_X12_areTwo_no {d : Nat} (hd : 4 ≤ d) {τ : ax_S} {n : Nat} {E D : Nat → Nat} {dry : Nat} (hb : bk_ok n E D dry) (hM : bk_M τ n E D dry) {a0 a1 : Int32} (g : ¬ plT n E D a0 a1) :
    ax_Ct shM d mX12_areTwo [ax_r 0, ax_i a0, ax_i a1] (fun r u => r = some (ax_i 0) ∧ u = τ) τ := by
  have hn := hb.2.1
  by_cases g2 : ∃ x y, x < n ∧ y < n ∧ x ≠ y ∧ a0 = nI x ∧ a1 = nI y
  · obtain ⟨x, y, hx, hy, hxy, rfl, rfl⟩ := g2
    refine (ct_X12_areTwo hd hb hM hx hy hxy).mono (fun r u hu => ⟨?_, hu.2⟩)
    rw [hu.1]
    cases z : chap E x y || tied D x y (D 84)
    · exact absurd ⟨x, y, hx, hy, hxy, rfl, rfl, z⟩ g
    · rfl
  · obtain ⟨d, rfl⟩ : ∃ e, d = e + 1 := ⟨d - 1, by omega⟩
    have key : (¬ a0 < (0 : Int32) ∧ ¬ τ.1 0 23 - 1 < a0) → (¬ a1 < (0 : Int32) ∧ ¬ τ.1 0 23 - 1 < a1) → ¬ a0 = a1 → False := fun c1 c2 c3 => by
      rw [hM.1] at c1 c2
      obtain ⟨x, hx, rfl⟩ := (is_Hm a0 n).mp c1
      obtain ⟨y, hy, rfl⟩ := (is_Hm a1 n).mp c2
      exact g2 ⟨x, y, hx, hy, fun z => c3 (by rw [z]), rfl, rfl⟩
    refine ax_Ct.of (lv := [some (ax_r 0), some (ax_i a0), some (ax_i a1)]) (by decide +kernel) (fun ad => Nat.le_of_ble_eq_true rfl) (fun ad => rfl) ?_
    exact s_X12_areTwo_0 (by omega) τ _ _ (fun _ => ⟨rfl, rfl⟩) (fun _ _ => ⟨rfl, rfl⟩) (fun _ _ _ => ⟨rfl, rfl⟩) (fun c1 c2 c3 => (key c1 c2 c3).elim) (fun c1 c2 c3 _ => (key c1 c2 c3).elim) (fun c1 c2 c3 _ => (key c1 c2 c3).elim) (fun c1 c2 c3 _ => (key c1 c2 c3).elim)
theorem bit_C (x : Int32) : ((x = 0) ∨ ¬ (¬ x = (1 : Int32))) ↔ ∃ b : Bool, x = if b then 1 else 0 := by
  constructor
  · rintro (h | h)
    · exact ⟨false, h⟩
    · exact ⟨true, Classical.not_not.mp h⟩
  · rintro ⟨b, rfl⟩; cases b
    · left; rfl
    · right; exact not_not_intro rfl
theorem bit_M (x : Int32) : (¬ x < (0 : Int32) ∧ ¬ (1 : Int32) < x) ↔ ∃ b : Bool, x = if b then 1 else 0 := by
  constructor
  · intro h
    obtain ⟨k, -, hk, rfl⟩ := (in_R x 0 1).mp h
    have : k = 0 ∨ k = 1 := by omega
    rcases this with rfl | rfl
    · exact ⟨false, rfl⟩
    · exact ⟨true, rfl⟩
  · rintro ⟨b, rfl⟩; cases b <;> decide
theorem bit_and (a b : Bool) : ((if a then (1 : Int32) else 0) &&& (if b then 1 else 0)) = if a && b then 1 else 0 := by cases a <;> cases b <;> decide
theorem good_game {j : Nat} {σ τ : ax_S} (h : RR j σ τ) (a0 a1 a2 a3 a4 a5 : Int32) : good j mX11_game mX12_game [ax_i a0, ax_i a1, ax_i a2, ax_i a3, ax_i a4, ax_i a5] σ τ := by
  obtain ⟨n, E, D, dry, lw, ho, L, hb, hlg, hlw, hC, hsm, hM, hlC, hlM, hnext⟩ := h.thought
  have hn := hb.2.1
  have iC : IC σ n E D dry σ := ⟨fo.rfl', hC, hsm⟩
  have iM : IM τ n E D dry τ := ⟨fo.rfl', D, eqv.rfl', hlg, hM⟩
  by_cases g : (plT n E D a0 a1 ∧ ∃ k, 1 ≤ k ∧ k ≤ 999 ∧ a2 = nI k) ∧ (∃ b : Bool, a3 = if b then 1 else 0) ∧ (∃ b : Bool, a4 = if b then 1 else 0) ∧ ∃ b : Bool, a5 = if b then 1 else 0
  · obtain ⟨⟨⟨x, y, hx, hy, hxy, rfl, rfl, hct⟩, v, hv1, hv, rfl⟩, ⟨p, rfl⟩, ⟨q, rfl⟩, w, rfl⟩ := g
    have q3 : ¬ nI v < (1 : Int32) ∧ ¬ (999 : Int32) < nI v := (in_R (nI v) 1 999).mpr ⟨v, hv1, hv, rfl⟩
    have bp := (bit_C (if p then 1 else 0)).mpr ⟨p, rfl⟩
    have bq := (bit_C (if q then 1 else 0)).mpr ⟨q, rfl⟩
    have bw := (bit_C (if w then 1 else 0)).mpr ⟨w, rfl⟩
    have mp := (bit_M (if p then 1 else 0)).mpr ⟨p, rfl⟩
    have mq := (bit_M (if q then 1 else 0)).mpr ⟨q, rfl⟩
    have mw := (bit_M (if w then 1 else 0)).mpr ⟨w, rfl⟩
    have e2 : (if (¬ (¬ (if p then (1 : Int32) else 0) = 1) ∧ ¬ (¬ (if q then (1 : Int32) else 0) = 1)) then (1 : Int32) else 0) = if p && q then 1 else 0 := by cases p <;> cases q <;> decide
    refine ⟨gm D (kpf E D dry ho L) (if w then y else x) (if w then x else y) v (p && q), IC σ n E D dry, IM τ n E D dry, ?_, ?_, hnext⟩
    · refine ax_Ct.of (lv := [some (ax_r 0), some (ax_i (nI x)), some (ax_i (nI y)), some (ax_i (nI v)), some (ax_i (if p then 1 else 0)), some (ax_i (if q then 1 else 0)), some (ax_i (if w then 1 else 0))]) (by decide +kernel) (fun ad => Nat.le_of_ble_eq_true rfl) (fun ad => rfl) ?_
      refine s_X11_game_0 (d := 59) (by omega) σ _ _ _ _ _ _ ?_
      refine (ct_X11_mayPlay (by omega) hb hC hx hy hxy hv1 hv).mono ?_
      rintro r u ⟨rfl, rfl⟩
      rw [hct]
      refine ⟨_, rfl, s_X11_game_7 (by omega) u _ _ _ _ _ _ _ (fun c => absurd c (by decide)) (fun _ c => absurd bp c) (fun _ _ c => absurd bq c) (fun _ _ _ _ c => ?_) (fun _ _ _ _ c => ?_) (fun _ _ _ c => absurd bw c)⟩
      · cases w
        · exact absurd rfl c
        · rw [bit_and]
          exact (ct_X11_gain (by omega) hb hlw hlC iC (p && q) hy hx (Ne.symm hxy) hv1 hv).mono (fun r u hu => ⟨_, hu.1, s_X11_game_69 (by omega) u _ ⟨rfl, hu.2⟩⟩)
      · cases w
        · rw [bit_and]
          exact (ct_X11_gain (by omega) hb hlw hlC iC (p && q) hx hy hxy hv1 hv).mono (fun r u hu => ⟨_, hu.1, s_X11_game_54 (by omega) u _ ⟨rfl, hu.2⟩⟩)
        · exact absurd (show ¬ (1 : Int32) = 0 by decide) c
    · refine ax_Ct.of (lv := [some (ax_r 0), some (ax_i (nI x)), some (ax_i (nI y)), some (ax_i (nI v)), some (ax_i (if p then 1 else 0)), some (ax_i (if q then 1 else 0)), some (ax_i (if w then 1 else 0)), none]) (by decide +kernel) (fun ad => Nat.le_of_ble_eq_true rfl) (fun ad => rfl) ?_
      refine s_X12_game_0 (d := 59) (by omega) τ _ _ _ _ _ _ ?_
      refine (ct_X12_areTwo (by omega) hb hM hx hy hxy).mono ?_
      rintro r u ⟨rfl, rfl⟩
      rw [hct]
      refine ⟨_, rfl, s_X12_game_6 (by omega) u _ _ _ _ _ _ _ (fun c => absurd c (by decide)) (fun _ c => absurd q3 c) (fun _ _ c => absurd mp c) (fun _ _ _ c => absurd mq c) (fun _ _ _ _ _ c => ?_) (fun _ _ _ _ _ c => ?_) (fun _ _ _ _ c => absurd mw c)⟩
      · cases w
        · exact absurd rfl c
        · rw [e2]
          exact (ct_X12_gameOf (by omega) hb hlg hlw hlM hM iM (p && q) hy hx (Ne.symm hxy) hv1 hv).mono (fun r u hu => ⟨_, hu.1, s_X12_game_95 (by omega) u _ ⟨rfl, hu.2⟩⟩)
      · cases w
        · rw [e2]
          exact (ct_X12_gameOf (by omega) hb hlg hlw hlM hM iM (p && q) hx hy hxy hv1 hv).mono (fun r u hu => ⟨_, hu.1, s_X12_game_83 (by omega) u _ ⟨rfl, hu.2⟩⟩)
        · exact absurd (show ¬ (1 : Int32) = 0 by decide) c
  · refine ⟨-1000000, IC σ n E D dry, IM τ n E D dry, ?_, ?_, hnext⟩
    · refine ax_Ct.of (lv := [some (ax_r 0), some (ax_i a0), some (ax_i a1), some (ax_i a2), some (ax_i a3), some (ax_i a4), some (ax_i a5)]) (by decide +kernel) (fun ad => Nat.le_of_ble_eq_true rfl) (fun ad => rfl) ?_
      refine s_X11_game_0 (d := 59) (by omega) σ _ _ _ _ _ _ ?_
      by_cases g2 : plT n E D a0 a1 ∧ ∃ k, 1 ≤ k ∧ k ≤ 999 ∧ a2 = nI k
      · have g2' := g2
        obtain ⟨⟨x, y, hx, hy, hxy, rfl, rfl, hct⟩, v, hv1, hv, rfl⟩ := g2'
        refine (ct_X11_mayPlay (by omega) hb hC hx hy hxy hv1 hv).mono ?_
        rintro r u ⟨rfl, rfl⟩
        refine ⟨_, rfl, s_X11_game_7 (by omega) u _ _ _ _ _ _ _ (fun _ => ⟨rfl, iC⟩) (fun _ _ => ⟨rfl, iC⟩) (fun _ _ _ => ⟨rfl, iC⟩) (fun _ c1 c2 c3 _ => absurd ⟨g2, (bit_C _).mp c1, (bit_C _).mp c2, (bit_C _).mp c3⟩ g) (fun _ c1 c2 c3 _ => absurd ⟨g2, (bit_C _).mp c1, (bit_C _).mp c2, (bit_C _).mp c3⟩ g) (fun _ _ _ _ => ⟨rfl, iC⟩)⟩
      · refine (ct_X11_mayPlay_no (by omega) hb hC g2).mono ?_
        rintro r u ⟨rfl, rfl⟩
        exact ⟨_, rfl, s_X11_game_7 (by omega) u _ _ _ _ _ _ _ (fun _ => ⟨rfl, iC⟩) (fun c => absurd rfl c) (fun c => absurd rfl c) (fun c => absurd rfl c) (fun c => absurd rfl c) (fun c => absurd rfl c)⟩
    · refine ax_Ct.of (lv := [some (ax_r 0), some (ax_i a0), some (ax_i a1), some (ax_i a2), some (ax_i a3), some (ax_i a4), some (ax_i a5), none]) (by decide +kernel) (fun ad => Nat.le_of_ble_eq_true rfl) (fun ad => rfl) ?_
      refine s_X12_game_0 (d := 59) (by omega) τ _ _ _ _ _ _ ?_
      by_cases g2 : plT n E D a0 a1
      · have g2' := g2
        obtain ⟨x, y, hx, hy, hxy, rfl, rfl, hct⟩ := g2'
        refine (ct_X12_areTwo (by omega) hb hM hx hy hxy).mono ?_
        rintro r u ⟨rfl, rfl⟩
        refine ⟨_, rfl, s_X12_game_6 (by omega) u _ _ _ _ _ _ _ (fun _ => ⟨rfl, iM⟩) (fun _ _ => ⟨rfl, iM⟩) (fun _ _ _ => ⟨rfl, iM⟩) (fun _ _ _ _ => ⟨rfl, iM⟩) (fun _ c0 c1 c2 c3 _ => absurd ⟨⟨g2, (in_R _ 1 999).mp c0⟩, (bit_M _).mp c1, (bit_M _).mp c2, (bit_M _).mp c3⟩ g) (fun _ c0 c1 c2 c3 _ => absurd ⟨⟨g2, (in_R _ 1 999).mp c0⟩, (bit_M _).mp c1, (bit_M _).mp c2, (bit_M _).mp c3⟩ g) (fun _ _ _ _ _ => ⟨rfl, iM⟩)⟩
      · refine (ct_X12_areTwo_no (by omega) hb hM g2).mono ?_
        rintro r u ⟨rfl, rfl⟩
        exact ⟨_, rfl, s_X12_game_6 (by omega) u _ _ _ _ _ _ _ (fun _ => ⟨rfl, iM⟩) (fun c => absurd rfl c) (fun c => absurd rfl c) (fun c => absurd rfl c) (fun c => absurd rfl c) (fun c => absurd rfl c) (fun c => absurd rfl c)⟩
/-- RESTS -/
def rst (D : Nat → Nat) (kp : Nat → Nat → Nat → Nat) (x y v : Nat) (a b : Bool) : Bool :=
  decide (¬ gm D kp x y v (a && b) < gm D kp x y v (!a && b)) && decide (¬ gm D kp y x v (a && b) < gm D kp y x v (a && !b))
def rsA (p : Nat → Bool) (i : Int32) : Nat → Nat → Nat → Int32
  | 0, _, s => if ¬ i = -1 then -1 else nI s
  | f + 1, k, s => if p k then (if nI s = i then nI (10 * (k / 2) + k % 2) else rsA p i f (k + 1) (s + 1)) else rsA p i f (k + 1) s
theorem bit_not (a : Bool) : (1 : Int32) - (if a then 1 else 0) = if !a then 1 else 0 := by cases a <;> decide
theorem ct_X11_isRest {d : Nat} (hd : 13 ≤ d) {σ u : ax_S} {n : Nat} {E D : Nat → Nat} {dry lw ho : Nat} {L : Nat → List (List (Nat × Nat) × List (Nat × Nat))} (hb : bk_ok n E D dry) (hlw : lwok lw ho L) (hlC : lwC σ lw ho L) (hu : IC σ n E D dry u) {x y v : Nat} (a b : Bool) (hx : x < n) (hy : y < n) (hxy : x ≠ y) (hv1 : 1 ≤ v) (hv : v ≤ 999) :
    ax_Ct shC d mX11_isRest [ax_r 0, ax_i (nI x), ax_i (nI y), ax_i (nI v), ax_i (if a then 1 else 0), ax_i (if b then 1 else 0)] (fun r w => r = some (ax_i (if rst D (kpf E D dry ho L) x y v a b then 1 else 0)) ∧ IC σ n E D dry w) u := by
  obtain ⟨d, rfl⟩ : ∃ e, d = e + 1 := ⟨d - 1, by omega⟩
  refine ax_Ct.of (lv := [some (ax_r 0), some (ax_i (nI x)), some (ax_i (nI y)), some (ax_i (nI v)), some (ax_i (if a then 1 else 0)), some (ax_i (if b then 1 else 0))]) (by decide +kernel) (fun ad => Nat.le_of_ble_eq_true rfl) (fun ad => rfl) ?_
  refine s_X11_isRest_0 (by omega) u _ _ _ _ _ ?_
  rw [bit_and]
  refine (ct_X11_gain (by omega) hb hlw hlC hu (a && b) hx hy hxy hv1 hv).mono ?_
  rintro r w ⟨rfl, w1⟩
  refine ⟨_, rfl, s_X11_isRest_12 (by omega) w _ _ _ _ _ _ ?_⟩
  rw [bit_not, bit_and]
  refine (ct_X11_gain (by omega) hb hlw hlC w1 (!a && b) hx hy hxy hv1 hv).mono ?_
  rintro r w2 ⟨rfl, w2h⟩
  refine ⟨_, rfl, s_X11_isRest_26 (by omega) w2 _ _ _ _ _ _ _ (fun c => ⟨?_, w2h⟩) (fun c => ?_)⟩
  · unfold rst; rw [decide_eq_false (not_not_intro c)]; rfl
  · rw [bit_and]
    refine (ct_X11_gain (by omega) hb hlw hlC w2h (a && b) hy hx (Ne.symm hxy) hv1 hv).mono ?_
    rintro r w3 ⟨rfl, w3h⟩
    refine ⟨_, rfl, s_X11_isRest_41 (by omega) w3 _ _ _ _ _ _ ?_⟩
    rw [bit_not, bit_and]
    refine (ct_X11_gain (by omega) hb hlw hlC w3h (a && !b) hy hx (Ne.symm hxy) hv1 hv).mono ?_
    rintro r w4 ⟨rfl, w4h⟩
    refine ⟨_, rfl, s_X11_isRest_55 (by omega) w4 _ _ ⟨?_, w4h⟩⟩
    unfold rst; rw [decide_eq_true c, Bool.true_and]
    by_cases z : gm D (kpf E D dry ho L) y x v (a && b) < gm D (kpf E D dry ho L) y x v (a && !b)
    · rw [if_neg (not_not_intro z), decide_eq_false (not_not_intro z)]; rfl
    · rw [if_pos z, decide_eq_true z]; rfl
def kb1 (k : Nat) : Bool := decide (k / 2 = 1)
def kb0 (k : Nat) : Bool := decide (k % 2 = 1)
theorem rs_bits : ∀ k, k < 4 → (nI k >>> ((1 : Int32) &&& 31)) = (if kb1 k then 1 else 0) ∧ (nI k &&& (1 : Int32)) = (if kb0 k then 1 else 0) ∧ nI k / (2 : Int32) = (if kb1 k then 1 else 0) ∧ nI k - nI k / (2 : Int32) * 2 = (if kb0 k then 1 else 0) := by decide +kernel
theorem rs_ten : ∀ k, k < 4 → (10 : Int32) * (if kb1 k then 1 else 0) + (if kb0 k then 1 else 0) = nI (10 * (k / 2) + k % 2) := by decide +kernel
theorem rs_t1 (a b : Bool) : (if ¬ (¬ ((1 : Int32) - (if a then 1 else 0)) + (if b then 1 else 0) = 2) then (1 : Int32) else 0) = if !a && b then 1 else 0 := by cases a <;> cases b <;> decide
theorem rs_t2 (a b : Bool) : (if ¬ (¬ ((if a then (1 : Int32) else 0) + (if b then 1 else 0)) = 2) then (1 : Int32) else 0) = if a && b then 1 else 0 := by cases a <;> cases b <;> decide
theorem rs_t3 (a b : Bool) : (if ¬ (¬ (((if a then (1 : Int32) else 0) + 1) - (if b then 1 else 0)) = 2) then (1 : Int32) else 0) = if a && !b then 1 else 0 := by cases a <;> cases b <;> decide
theorem good_rests {j : Nat} {σ τ : ax_S} (h : RR j σ τ) (a0 a1 a2 a3 : Int32) : good j mX11_rests mX12_rests [ax_i a0, ax_i a1, ax_i a2, ax_i a3] σ τ := by
  obtain ⟨n, E, D, dry, lw, ho, L, hb, hlg, hlw, hC, hsm, hM, hlC, hlM, hnext⟩ := h.thought
  have hn := hb.2.1
  have iC : IC σ n E D dry σ := ⟨fo.rfl', hC, hsm⟩
  have iM : IM τ n E D dry τ := ⟨fo.rfl', D, eqv.rfl', hlg, hM⟩
  by_cases g : (plT n E D a0 a1 ∧ ∃ k, 1 ≤ k ∧ k ≤ 999 ∧ a2 = nI k) ∧ (-1 : Int32) ≤ a3
  · obtain ⟨⟨⟨x, y, hx, hy, hxy, rfl, rfl, hct⟩, v, hv1, hv, rfl⟩, g3⟩ := g
    have q3 : ¬ nI v < (1 : Int32) ∧ ¬ (999 : Int32) < nI v := (in_R (nI v) 1 999).mpr ⟨v, hv1, hv, rfl⟩
    refine ⟨rsA (fun k => rst D (kpf E D dry ho L) x y v (kb1 k) (kb0 k)) a3 4 0 0, IC σ n E D dry, IM τ n E D dry, ?_, ?_, hnext⟩
    · refine ax_Ct.of (lv := [some (ax_r 0), some (ax_i (nI x)), some (ax_i (nI y)), some (ax_i (nI v)), some (ax_i a3), none, none, none, none]) (by decide +kernel) (fun ad => Nat.le_of_ble_eq_true rfl) (fun ad => rfl) ?_
      refine s_X11_rests_0 (d := 59) (by omega) σ _ _ _ _ ?_
      refine (ct_X11_mayPlay (by omega) hb hC hx hy hxy hv1 hv).mono ?_
      rintro r u ⟨rfl, rfl⟩
      rw [hct]
      refine ⟨_, rfl, s_X11_rests_7 (by omega) u _ _ _ _ _ (fun c => absurd c (by decide)) (fun _ _ => ?_) (fun _ c => absurd g3 c)⟩
      have loop : ∀ f k s w, k + f = 4 → s ≤ k → IC u n E D dry w → ax_W shC (59 + 1) mX11_rests (fun r t => r = some (ax_i (rsA (fun k => rst D (kpf E D dry ho L) x y v (kb1 k) (kb0 k)) a3 f k s)) ∧ IC u n E D dry t) 24 [some (ax_r 0), some (ax_i (nI x)), some (ax_i (nI y)), some (ax_i (nI v)), some (ax_i a3), some (ax_i (nI s)), some (ax_i (nI k)), none, none] [] w := by
        intro f
        induction f with
        | zero =>
          intro k s w hk hs hw
          have e4 : k = 4 := by omega
          subst e4
          exact s_X11_rests_24 (by omega) w _ _ _ _ _ _ (fun _ => ⟨rfl, hw⟩) (fun c => absurd (by decide) c)
        | succ f ih =>
          intro k s w hk hs hw
          obtain ⟨b1, b2, -, -⟩ := rs_bits k (by omega)
          refine s_X11_rests_24 (by omega) w _ _ _ _ _ _ (fun c => absurd ((n_le 4 k).mp c) (by omega)) (fun _ => ?_)
          rw [b1, b2]
          refine (ct_X11_isRest (by omega) hb hlw hlC hw (kb1 k) (kb0 k) hx hy hxy hv1 hv).mono ?_
          rintro r w2 ⟨rfl, w2h⟩
          refine ⟨_, rfl, ?_⟩
          rw [rsA]
          cases z : rst D (kpf E D dry ho L) x y v (kb1 k) (kb0 k)
          · refine s_X11_rests_53 (by omega) w2 _ _ _ _ _ _ _ _ _ (fun c => absurd rfl c) (fun c => absurd rfl c) (fun _ => ?_)
            rw [nI_1, if_neg (by decide)]
            exact ih (k + 1) s w2 (by omega) (by omega) w2h
          · refine s_X11_rests_53 (by omega) w2 _ _ _ _ _ _ _ _ _ (fun _ c => ?_) (fun _ c => ?_) (fun c => absurd (show ¬ (1 : Int32) = 0 by decide) c)
            · rw [nI_1, nI_1, if_pos rfl, if_neg c]
              exact ih (k + 1) (s + 1) w2 (by omega) (by omega) w2h
            · rw [if_pos rfl, if_pos (Classical.not_not.mp c), rs_ten k (by omega)]
              exact ⟨rfl, w2h⟩
      exact loop 4 0 0 u rfl (Nat.le_refl 0) iC
    · refine ax_Ct.of (lv := [some (ax_r 0), some (ax_i (nI x)), some (ax_i (nI y)), some (ax_i (nI v)), some (ax_i a3), none, none, none, none, none, none, none]) (by decide +kernel) (fun ad => Nat.le_of_ble_eq_true rfl) (fun ad => rfl) ?_
      refine s_X12_rests_0 (d := 59) (by omega) τ _ _ _ _ ?_
      refine (ct_X12_areTwo (by omega) hb hM hx hy hxy).mono ?_
      rintro r u ⟨rfl, rfl⟩
      rw [hct]
      refine ⟨_, rfl, s_X12_rests_6 (by omega) u _ _ _ _ _ (fun c => absurd c (by decide)) (fun _ c => absurd q3 c) (fun _ _ _ => ?_) (fun _ _ c => absurd g3 c)⟩
      have loop : ∀ f k s w, k + f = 4 → s ≤ k → IM u n E D dry w → ax_W shM (59 + 1) mX12_rests (fun r t => r = some (ax_i (rsA (fun k => rst D (kpf E D dry ho L) x y v (kb1 k) (kb0 k)) a3 f k s)) ∧ IM u n E D dry t) 30 [some (ax_r 0), some (ax_i (nI x)), some (ax_i (nI y)), some (ax_i (nI v)), some (ax_i a3), some (ax_i (nI s)), some (ax_i (nI k)), none, none, none, none, none] [] w := by
        intro f
        induction f with
        | zero =>
          intro k s w hk hs hw
          have e4 : k = 4 := by omega
          subst e4
          exact s_X12_rests_30 (by omega) w _ _ _ _ _ _ (fun _ => ⟨rfl, hw⟩) (fun c => absurd (by decide) c)
        | succ f ih =>
          intro k s w hk hs hw
          obtain ⟨-, -, b1, b2⟩ := rs_bits k (by omega)
          refine s_X12_rests_30 (by omega) w _ _ _ _ _ _ (fun c => absurd ((n_le 4 k).mp c) (by omega)) (fun _ => ?_)
          rw [b2, b1, rs_t1, rs_t2]
          refine (ct_X12_gameOf (by omega) hb hlg hlw hlM hM hw (!kb1 k && kb0 k) hx hy hxy hv1 hv).mono ?_
          rintro r w2 ⟨rfl, w2h⟩
          refine ⟨_, rfl, s_X12_rests_87 (by omega) w2 _ _ _ _ _ _ _ _ _ _ ?_⟩
          refine (ct_X12_gameOf (by omega) hb hlg hlw hlM hM w2h (kb1 k && kb0 k) hx hy hxy hv1 hv).mono ?_
          rintro r w3 ⟨rfl, w3h⟩
          refine ⟨_, rfl, s_X12_rests_96 (by omega) w3 _ _ _ _ _ _ _ _ _ _ _ ?_⟩
          rw [rs_t3]
          refine (ct_X12_gameOf (by omega) hb hlg hlw hlM hM w3h (kb1 k && !kb0 k) hy hx (Ne.symm hxy) hv1 hv).mono ?_
          rintro r w4 ⟨rfl, w4h⟩
          refine ⟨_, rfl, s_X12_rests_129 (by omega) w4 _ _ _ _ _ _ _ _ _ _ _ ?_⟩
          refine (ct_X12_gameOf (by omega) hb hlg hlw hlM hM w4h (kb1 k && kb0 k) hy hx (Ne.symm hxy) hv1 hv).mono ?_
          rintro r w5 ⟨rfl, w5h⟩
          refine ⟨_, rfl, ?_⟩
          rw [rsA]
          by_cases z1 : gm D (kpf E D dry ho L) x y v (kb1 k && kb0 k) < gm D (kpf E D dry ho L) x y v (!kb1 k && kb0 k)
          · have e : rst D (kpf E D dry ho L) x y v (kb1 k) (kb0 k) = false := by unfold rst; rw [decide_eq_false (not_not_intro z1)]; rfl
            rw [if_neg (not_not_intro z1), e, if_neg (by decide)]
            refine s_X12_rests_138 (by omega) w5 _ _ _ _ _ _ _ _ _ _ _ (fun _ => ?_) (fun c => absurd rfl c) (fun c => absurd rfl c) (fun c => absurd rfl c)
            rw [nI_1]
            exact ih (k + 1) s w5 (by omega) (by omega) w5h
          · rw [if_pos z1]
            by_cases z2 : gm D (kpf E D dry ho L) y x v (kb1 k && kb0 k) < gm D (kpf E D dry ho L) y x v (kb1 k && !kb0 k)
            · have e : rst D (kpf E D dry ho L) x y v (kb1 k) (kb0 k) = false := by unfold rst; rw [decide_eq_false (not_not_intro z2)]; exact Bool.and_false _
              rw [e, if_neg (by decide)]
              refine s_X12_rests_138 (by omega) w5 _ _ _ _ _ _ _ _ _ _ _ (fun c => absurd c (by decide)) (fun _ _ => ?_) (fun _ c => absurd z2 c) (fun _ c => absurd z2 c)
              rw [nI_1]
              exact ih (k + 1) s w5 (by omega) (by omega) w5h
            · have e : rst D (kpf E D dry ho L) x y v (kb1 k) (kb0 k) = true := by unfold rst; rw [decide_eq_true z1, decide_eq_true z2]; rfl
              rw [e, if_pos rfl]
              refine s_X12_rests_138 (by omega) w5 _ _ _ _ _ _ _ _ _ _ _ (fun c => absurd c (by decide)) (fun _ c => absurd z2 c) (fun _ _ c => ?_) (fun _ _ c => ?_)
              · rw [nI_1, nI_1, if_neg c]
                exact ih (k + 1) (s + 1) w5 (by omega) (by omega) w5h
              · rw [if_pos (Classical.not_not.mp c), rs_ten k (by omega)]
                exact ⟨rfl, w5h⟩
      exact loop 4 0 0 u rfl (Nat.le_refl 0) iM
  · refine ⟨-1, IC σ n E D dry, IM τ n E D dry, ?_, ?_, hnext⟩
    · refine ax_Ct.of (lv := [some (ax_r 0), some (ax_i a0), some (ax_i a1), some (ax_i a2), some (ax_i a3), none, none, none, none]) (by decide +kernel) (fun ad => Nat.le_of_ble_eq_true rfl) (fun ad => rfl) ?_
      refine s_X11_rests_0 (d := 59) (by omega) σ _ _ _ _ ?_
      by_cases g2 : plT n E D a0 a1 ∧ ∃ k, 1 ≤ k ∧ k ≤ 999 ∧ a2 = nI k
      · have g2' := g2
        obtain ⟨⟨x, y, hx, hy, hxy, rfl, rfl, hct⟩, v, hv1, hv, rfl⟩ := g2'
        refine (ct_X11_mayPlay (by omega) hb hC hx hy hxy hv1 hv).mono ?_
        rintro r u ⟨rfl, rfl⟩
        exact ⟨_, rfl, s_X11_rests_7 (by omega) u _ _ _ _ _ (fun _ => ⟨rfl, iC⟩) (fun _ c => absurd ⟨g2, c⟩ g) (fun _ _ => ⟨rfl, iC⟩)⟩
      · refine (ct_X11_mayPlay_no (by omega) hb hC g2).mono ?_
        rintro r u ⟨rfl, rfl⟩
        exact ⟨_, rfl, s_X11_rests_7 (by omega) u _ _ _ _ _ (fun _ => ⟨rfl, iC⟩) (fun c => absurd rfl c) (fun c => absurd rfl c)⟩
    · refine ax_Ct.of (lv := [some (ax_r 0), some (ax_i a0), some (ax_i a1), some (ax_i a2), some (ax_i a3), none, none, none, none, none, none, none]) (by decide +kernel) (fun ad => Nat.le_of_ble_eq_true rfl) (fun ad => rfl) ?_
      refine s_X12_rests_0 (d := 59) (by omega) τ _ _ _ _ ?_
      by_cases g2 : plT n E D a0 a1
      · have g2' := g2
        obtain ⟨x, y, hx, hy, hxy, rfl, rfl, hct⟩ := g2'
        refine (ct_X12_areTwo (by omega) hb hM hx hy hxy).mono ?_
        rintro r u ⟨rfl, rfl⟩
        exact ⟨_, rfl, s_X12_rests_6 (by omega) u _ _ _ _ _ (fun _ => ⟨rfl, iM⟩) (fun _ _ => ⟨rfl, iM⟩) (fun _ c0 c1 => absurd ⟨⟨g2, (in_R _ 1 999).mp c0⟩, c1⟩ g) (fun _ _ _ => ⟨rfl, iM⟩)⟩
      · refine (ct_X12_areTwo_no (by omega) hb hM g2).mono ?_
        rintro r u ⟨rfl, rfl⟩
        exact ⟨_, rfl, s_X12_rests_6 (by omega) u _ _ _ _ _ (fun _ => ⟨rfl, iM⟩) (fun c => absurd rfl c) (fun c => absurd rfl c) (fun c => absurd rfl c)⟩
