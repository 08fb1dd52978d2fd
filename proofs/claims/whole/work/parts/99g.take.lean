/-! ===== a belt that was read, taken ===== -/
def DBn (B : tB) (m j : Nat) : Nat :=
  if j < B.nh then B.H (4 * j + 2)
  else if 16 ≤ j ∧ j < 16 + 4 * m then (if (j - 16) % 4 = 3 then 0 else B.W (3 * ((j - 16) / 4) + (j - 16) % 4))
  else if j = 84 then m else if j = 85 then B.S 0 else 0
theorem DBn_h {B : tB} {m h : Nat} (hh : h < B.nh) : DBn B m h = B.H (4 * h + 2) := if_pos hh
theorem DBn_b {B : tB} (hB : bok B) {m h : Nat} (hh : h < B.nh) : DBn B m (8 + h) = 0 := by
  have := hB.2.2.2.1
  unfold DBn
  rw [if_neg (by omega), if_neg (by omega), if_neg (by omega), if_neg (by omega)]
theorem DBn_w {B : tB} (hB : bok B) {m w k : Nat} (hw : w < m) (hk : k < 3) : DBn B m (16 + 4 * w + k) = B.W (3 * w + k) := by
  have := hB.2.2.2.1
  unfold DBn
  rw [if_neg (by omega), if_pos ⟨by omega, by omega⟩, if_neg (by omega)]
  congr 1; omega
theorem DBn_c {B : tB} (hB : bok B) {m w : Nat} (hw : w < m) : DBn B m (16 + 4 * w + 3) = 0 := by
  have := hB.2.2.2.1
  unfold DBn
  rw [if_neg (by omega), if_pos ⟨by omega, by omega⟩, if_pos (by omega)]
theorem DBn_84 {B : tB} (hB : bok B) {m : Nat} (hm : m ≤ 8) : DBn B m 84 = m ∧ DBn B m 85 = B.S 0 ∧ DBn B m 86 = 0 ∧ DBn B m 87 = 0 := by
  have := hB.2.2.2.1
  unfold DBn
  refine ⟨?_, ?_, ?_, ?_⟩
  · rw [if_neg (by omega), if_neg (by omega), if_pos rfl]
  · rw [if_neg (by omega), if_neg (by omega), if_neg (by omega), if_pos rfl]
  · rw [if_neg (by omega), if_neg (by omega), if_neg (by omega), if_neg (by omega)]
  · rw [if_neg (by omega), if_neg (by omega), if_neg (by omega), if_neg (by omega)]
theorem B_h {B : tB} (hB : bok B) {h : Nat} (hh : h < B.nh) : B.H (4 * h) ≤ 20 ∧ 1 ≤ B.H (4 * h + 1) ∧ B.H (4 * h + 1) ≤ 9 ∧ 1 ≤ B.H (4 * h + 2) ∧ B.H (4 * h + 2) ≤ 99 ∧ B.H (4 * h + 3) ≤ 3 := by
  have g := hB.2.1 h hh
  exact ⟨(g 0 (by decide)).2, (g 1 (by decide)).1, (g 1 (by decide)).2, (g 2 (by decide)).1, (g 2 (by decide)).2, (g 3 (by decide)).2⟩
theorem B_w {B : tB} (hB : bok B) {w : Nat} (hw : w < B.nw) : B.W (3 * w) ≤ 7 ∧ B.W (3 * w + 1) ≤ 7 ∧ B.W (3 * w + 2) ≤ 9 := by
  have g := hB.2.2.1 w hw
  exact ⟨(g 0 (by decide)).2, (g 1 (by decide)).2, (g 2 (by decide)).2⟩
theorem B_s {B : tB} (hB : bok B) : B.S 0 ≤ 99 ∧ B.S 1 ≤ 9 := ⟨(hB.1 0 (by decide)).2, (hB.1 1 (by decide)).2⟩
theorem DB_ok {B : tB} (hB : bok B) (hW : whB B) : bk_ok B.nh B.H (DBn B B.nw) (B.S 1) ∧ lg_ok (DBn B B.nw) := by
  have h8 := hB.2.2.2.1
  have w8 := hB.2.2.2.2.1
  obtain ⟨q1, q2, q3, q4⟩ := DBn_84 hB w8
  obtain ⟨s0, s1⟩ := B_s hB
  refine ⟨⟨Or.inr hW.1, h8, s1, by omega, by omega, by omega, fun z => absurd hW.1 (by omega), fun h hh => ?_, fun w hw => ?_⟩, by omega, fun j hj => ?_⟩
  · obtain ⟨b1, b2, b3, b4, b5, b6⟩ := B_h hB hh
    rw [DBn_h hh, DBn_b hB hh]
    exact ⟨b1, b2, b3, b6, b4, b5, by omega⟩
  · rw [q1] at hw
    obtain ⟨b1, b2, b3⟩ := B_w hB hw
    obtain ⟨l1, l2, l3, l4⟩ := (hW.2 w hw).1
    show DBn B B.nw (16 + 4 * w + 0) < B.nh ∧ DBn B B.nw (16 + 4 * w + 1) < B.nh ∧ DBn B B.nw (16 + 4 * w + 0) ≠ DBn B B.nw (16 + 4 * w + 1) ∧ DBn B B.nw (16 + 4 * w + 2) ≤ 9 ∧ DBn B B.nw (16 + 4 * w + 3) ≤ 1
    rw [DBn_w hB hw (by omega), DBn_w hB hw (by omega), DBn_w hB hw (by omega), DBn_c hB hw]
    exact ⟨l1, l2, l3, b3, by omega⟩
  · unfold DBn
    by_cases e1 : j < B.nh
    · rw [if_pos e1]; have := B_h hB e1; omega
    · rw [if_neg e1]
      by_cases e2 : 16 ≤ j ∧ j < 16 + 4 * B.nw
      · rw [if_pos e2]
        by_cases e3 : (j - 16) % 4 = 3
        · rw [if_pos e3]; omega
        · rw [if_neg e3]
          have := B_w hB (w := (j - 16) / 4) (by omega)
          have hk : (j - 16) % 4 < 3 := by omega
          generalize (j - 16) % 4 = k at *
          obtain rfl | rfl | rfl : k = 0 ∨ k = 1 ∨ k = 2 := by omega
          · have := this.1; rw [Nat.add_zero]; omega
          · have := this.2.1; omega
          · have := this.2.2; omega
      · rw [if_neg e2]
        by_cases e4 : j = 84
        · rw [if_pos e4]; omega
        · rw [if_neg e4]
          by_cases e5 : j = 85
          · rw [if_pos e5]; omega
          · rw [if_neg e5]; omega
def F5 (u : ax_S) (B : tB) : Prop := u.1 5 9 = nI B.nh ∧ u.1 5 10 = nI B.nw ∧ u.1 5 11 = 0 ∧ u.1 5 12 = nI (B.S 0) ∧ u.1 5 13 = nI (B.S 1) ∧ u.1 5 14 = 0
theorem F5.to {u w : ax_S} {B : tB} (h : F5 u B) (hf : ∀ i, w.1 5 i = u.1 5 i) : F5 w B := by unfold F5 at h ⊢; rw [hf, hf, hf, hf, hf, hf]; exact h
def hR (u : ax_S) (B : tB) (m : Nat) : Prop := ∀ h, h < m → u.1 23 h = nI (B.H (4 * h)) ∧ u.1 24 h = nI (B.H (4 * h + 1)) ∧ u.1 25 h = nI (B.H (4 * h + 2)) ∧ u.1 26 h = nI (B.H (4 * h + 3)) ∧ u.1 27 h = 0
def wR (u : ax_S) (B : tB) (m : Nat) : Prop := ∀ w, w < m → u.1 28 w = nI (B.W (3 * w)) ∧ u.1 29 w = nI (B.W (3 * w + 1)) ∧ u.1 30 w = nI (B.W (3 * w + 2))
def tkF (c i : Nat) : Prop := c = 5 ∨ (23 ≤ c ∧ c ≤ 31)
theorem ct_X0_take {d : Nat} (hd : 5 ≤ d) {σ : ax_S} {B : tB} (hB : bok B) (hW : whB B) (h : cBs σ B) (hsm : bk_sm σ) :
    ax_Ct shC d mX0_take [ax_r 5, ax_r 2] (fun y w => y = none ∧ fo tkF w σ ∧ bk_C w B.nh B.H (DBn B B.nw) (B.S 1) ∧ bk_sm w) σ := by
  have h8 := hB.2.2.2.1
  have w8 := hB.2.2.2.2.1
  obtain ⟨D84, D85, D86, D87⟩ := DBn_84 hB w8
  obtain ⟨a1, a2, a3, a4, a5, a6⟩ := h
  obtain ⟨d, rfl⟩ : ∃ e, d = e + 1 := ⟨d - 1, by omega⟩
  refine ax_Ct.of (lv := [some (ax_r 5), some (ax_r 2), none, none]) (by decide +kernel) (fun ad => Nat.le_of_ble_eq_true rfl) (fun ad => rfl) ?_
  refine s_X0_take_0 (by omega) σ ?_
  rw [a2, a3, a4 0 (by omega), a4 1 (by omega)]
  have fin : ∀ u, fo tkF u σ → F5 u B → hR u B B.nh → wR u B B.nw → bk_sm u → ax_Ct shC d mX0_touchAnew [ax_r 5] (fun y u => y = none ∧ ax_W shC (d + 1) mX0_take (fun y w => y = none ∧ fo tkF w σ ∧ bk_C w B.nh B.H (DBn B B.nw) (B.S 1) ∧ bk_sm w) 191 [none, none, none, none] [] u) u := by
    intro u hf h5 hh hw hs
    refine (ct_X0_touchAnew (by omega) (m := B.nw) (fr := fun w => B.W (3 * w)) (to := fun w => B.W (3 * w + 1)) (by omega) h5.2.1 (fun w hw' => ?_)).mono ?_
    · have := B_w hB hw'
      exact ⟨(hw w hw').1, (hw w hw').2.1, by omega, by omega⟩
    · rintro y v ⟨rfl, v1, v2⟩
      refine ⟨rfl, s_X0_take_191 (by omega) v ⟨rfl, (v1.mono (fun c i z => by unfold tkF; omega)).trans hf, ?_, hs.to v1.1 (by omega)⟩⟩
      obtain ⟨f1, f2, f3, f4, f5, f6⟩ := h5.to (fun i => v1.1 5 i (by omega))
      refine ⟨f1, by rw [D84]; exact f2, by rw [D85]; exact f4, f5, by rw [D86]; exact f6, fun q hq => ?_, fun w hw' => ?_, fun i hi => ?_, fun q hq w hw' => ?_⟩
      · rw [DBn_h hq, DBn_b hB hq, v1.1 23 q (by omega), v1.1 24 q (by omega), v1.1 25 q (by omega), v1.1 26 q (by omega), v1.1 27 q (by omega)]
        obtain ⟨g1, g2, g3, g4, g5⟩ := hh q hq
        exact ⟨g1, g2, g4, g3, g5⟩
      · rw [D84] at hw'
        show v.1 28 w = nI (DBn B B.nw (16 + 4 * w + 0)) ∧ v.1 29 w = nI (DBn B B.nw (16 + 4 * w + 1)) ∧ v.1 30 w = nI (DBn B B.nw (16 + 4 * w + 2))
        rw [DBn_w hB hw' (by omega), DBn_w hB hw' (by omega), DBn_w hB hw' (by omega), v1.1 28 w (by omega), v1.1 29 w (by omega), v1.1 30 w (by omega)]
        exact hw w hw'
      · rw [f3, D84]
        have e : bt (0 : Int32) i = false := b_0 i
        rw [e]
        by_cases e2 : i < B.nw
        · have : ¬ bk_w (DBn B B.nw) i 3 = 1 := by
            show ¬ DBn B B.nw (16 + 4 * i + 3) = 1
            rw [DBn_c hB e2]; omega
          rw [decide_eq_false this, Bool.and_false]
        · rw [decide_eq_false e2, Bool.false_and]
      · rw [D84] at hw'
        rw [v2 q (by omega) w (by omega)]
        show _ = (decide (DBn B B.nw (16 + 4 * w + 0) = q) || decide (DBn B B.nw (16 + 4 * w + 1) = q))
        rw [DBn_w hB hw' (by omega), DBn_w hB hw' (by omega), decide_eq_true hw', Bool.true_and]; rfl
  have lp2 : ∀ f w u, w + f = B.nw → fo tkF u σ → F5 u B → hR u B B.nh → wR u B w → bk_sm u → (∀ i, u.1 17 i = σ.1 17 i) → ax_W shC (d + 1) mX0_take (fun y w => y = none ∧ fo tkF w σ ∧ bk_C w B.nh B.H (DBn B B.nw) (B.S 1) ∧ bk_sm w) 129 [some (ax_r 5), some (ax_r 2), some (ax_i (nI w)), none] [] u := by
    intro f
    induction f with
    | zero =>
      intro w u hw hf h5 hh hwr hs h17
      have g : u.1 5 10 ≤ nI w := by rw [h5.2.1]; exact (n_le _ _).mpr (by omega)
      have e : w = B.nw := by omega
      rw [e] at hwr
      exact s_X0_take_129 (by omega) u _ (fun _ => fin u hf h5 hh hwr hs) (fun z => absurd g z) (fun z => absurd g z) (fun z => absurd g z) (fun z => absurd g z) (fun z => absurd g z)
    | succ f ih =>
      intro w u hw hf h5 hh hwr hs h17
      have g : ¬ u.1 5 10 ≤ nI w := by rw [h5.2.1]; exact fun z => absurd ((n_le _ _).mp z) (by omega)
      have e0 : nI w * (3 : Int32) = nI (3 * w) := by rw [Nat.mul_comm]; exact n_mul w 3
      have e1 : nI w * (3 : Int32) + 1 = nI (3 * w + 1) := by rw [e0]; exact n_add _ 1
      have e2 : nI w * (3 : Int32) + 2 = nI (3 * w + 2) := by rw [e0]; exact n_add _ 2
      have bw := B_w hB (w := w) (by omega)
      refine s_X0_take_129 (by omega) u _ (fun z => absurd z g) (fun _ => by rw [e0]; exact n_in _ _) (fun _ => n_in _ _) (fun _ => by rw [e1]; exact n_in _ _) (fun _ => by rw [e2]; exact n_in _ _) (fun _ => ?_)
      rw [e1, e2, e0, n_tn w, n_tn (3 * w), n_tn (3 * w + 1), n_tn (3 * w + 2), h17, h17, h17, a6 _ (by omega), a6 _ (by omega), a6 _ (by omega), nI_1]
      have f3 : fo (fun c i => (c = 28 ∨ c = 29 ∨ c = 30) ∧ i = w) (ax_ui (ax_ui (ax_ui u 28 w (nI (B.W (3 * w)))) 29 w (nI (B.W (3 * w + 1)))) 30 w (nI (B.W (3 * w + 2)))) u := ((fo.rfl'.ui (by omega)).ui (by omega)).ui (by omega)
      have c28 : (ax_ui (ax_ui (ax_ui u 28 w (nI (B.W (3 * w)))) 29 w (nI (B.W (3 * w + 1)))) 30 w (nI (B.W (3 * w + 2)))).1 28 w = nI (B.W (3 * w)) := by rw [ui_cell (by omega), ui_cell (by omega), ui_same]
      have c29 : (ax_ui (ax_ui (ax_ui u 28 w (nI (B.W (3 * w)))) 29 w (nI (B.W (3 * w + 1)))) 30 w (nI (B.W (3 * w + 2)))).1 29 w = nI (B.W (3 * w + 1)) := by rw [ui_cell (by omega), ui_same]
      have c30 : (ax_ui (ax_ui (ax_ui u 28 w (nI (B.W (3 * w)))) 29 w (nI (B.W (3 * w + 1)))) 30 w (nI (B.W (3 * w + 2)))).1 30 w = nI (B.W (3 * w + 2)) := ui_same _ _ _ _
      refine ih (w + 1) _ (by omega) ((f3.mono (fun c i z => by unfold tkF; omega)).trans hf) (h5.to (fun i => f3.1 5 i (by omega))) (fun q hq => ?_) (fun q hq => ?_) (fun q hq => ?_) (fun i => (f3.1 17 i (by omega)).trans (h17 i))
      · rw [f3.1 23 q (by omega), f3.1 24 q (by omega), f3.1 25 q (by omega), f3.1 26 q (by omega), f3.1 27 q (by omega)]; exact hh q hq
      · by_cases e : q = w
        · rw [e]; exact ⟨c28, c29, c30⟩
        · rw [f3.1 28 q (by omega), f3.1 29 q (by omega), f3.1 30 q (by omega)]; exact hwr q (by omega)
      · by_cases e : q = w
        · rw [e]; exact ⟨_, _, _, c28, c29, c30, by omega, by omega, by omega⟩
        · rw [f3.1 28 q (by omega), f3.1 29 q (by omega), f3.1 30 q (by omega)]; exact hs q hq
  have lp1 : ∀ f q u, q + f = B.nh → fo (fun c i => c = 5 ∨ (23 ≤ c ∧ c ≤ 27)) u σ → F5 u B → hR u B q → ax_W shC (d + 1) mX0_take (fun y w => y = none ∧ fo tkF w σ ∧ bk_C w B.nh B.H (DBn B B.nw) (B.S 1) ∧ bk_sm w) 48 [some (ax_r 5), some (ax_r 2), some (ax_i (nI q)), none] [] u := by
    intro f
    induction f with
    | zero =>
      intro q u hq hf h5 hh
      have g : u.1 5 9 ≤ nI q := by rw [h5.1]; exact (n_le _ _).mpr (by omega)
      have e : q = B.nh := by omega
      rw [e] at hh
      refine s_X0_take_48 (by omega) u _ (fun _ => ?_) (fun z => absurd g z) (fun z => absurd g z) (fun z => absurd g z) (fun z => absurd g z) (fun z => absurd g z) (fun z => absurd g z)
      exact lp2 B.nw 0 u (by omega) (hf.mono (fun c i z => by unfold tkF; omega)) h5 hh (fun w hw => absurd hw (by omega)) (hsm.to hf.1 (by omega)) (fun i => hf.1 17 i (by omega))
    | succ f ih =>
      intro q u hq hf h5 hh
      have g : ¬ u.1 5 9 ≤ nI q := by rw [h5.1]; exact fun z => absurd ((n_le _ _).mp z) (by omega)
      have e0 : nI q * (4 : Int32) = nI (4 * q) := by rw [Nat.mul_comm]; exact n_mul q 4
      have e1 : nI q * (4 : Int32) + 1 = nI (4 * q + 1) := by rw [e0]; exact n_add _ 1
      have e2 : nI q * (4 : Int32) + 2 = nI (4 * q + 2) := by rw [e0]; exact n_add _ 2
      have e3 : nI q * (4 : Int32) + 3 = nI (4 * q + 3) := by rw [e0]; exact n_add _ 3
      have h16 : ∀ i, i < 4 * B.nh → u.1 16 i = nI (B.H i) := fun i hi => (hf.1 16 i (by omega)).trans (a5 i hi)
      refine s_X0_take_48 (by omega) u _ (fun z => absurd z g) (fun _ => by rw [e0]; exact n_in _ _) (fun _ => n_in _ _) (fun _ => by rw [e1]; exact n_in _ _) (fun _ => by rw [e2]; exact n_in _ _) (fun _ => by rw [e3]; exact n_in _ _) (fun _ => ?_)
      rw [e1, e2, e3, e0, n_tn q, n_tn (4 * q), n_tn (4 * q + 1), n_tn (4 * q + 2), n_tn (4 * q + 3), h16 _ (by omega), h16 _ (by omega), h16 _ (by omega), h16 _ (by omega), nI_1]
      have f3 : fo (fun c i => (23 ≤ c ∧ c ≤ 27) ∧ i = q) (ax_ui (ax_ui (ax_ui (ax_ui (ax_ui u 23 q (nI (B.H (4 * q)))) 24 q (nI (B.H (4 * q + 1)))) 25 q (nI (B.H (4 * q + 2)))) 26 q (nI (B.H (4 * q + 3)))) 27 q 0) u := ((((fo.rfl'.ui (by omega)).ui (by omega)).ui (by omega)).ui (by omega)).ui (by omega)
      refine ih (q + 1) _ (by omega) ((f3.mono (fun c i z => by omega)).trans hf) (h5.to (fun i => f3.1 5 i (by omega))) (fun p hp => ?_)
      by_cases e : p = q
      · rw [e]
        refine ⟨?_, ?_, ?_, ?_, ui_same _ _ _ _⟩
        · rw [ui_cell (by omega), ui_cell (by omega), ui_cell (by omega), ui_cell (by omega), ui_same]
        · rw [ui_cell (by omega), ui_cell (by omega), ui_cell (by omega), ui_same]
        · rw [ui_cell (by omega), ui_cell (by omega), ui_same]
        · rw [ui_cell (by omega), ui_same]
      · rw [f3.1 23 p (by omega), f3.1 24 p (by omega), f3.1 25 p (by omega), f3.1 26 p (by omega), f3.1 27 p (by omega)]; exact hh p (by omega)
  refine lp1 B.nh 0 _ (by omega) ((((((fo.rfl'.ui (by omega)).ui (by omega)).ui (by omega)).ui (by omega)).ui (by omega)).ui (by omega)) ⟨?_, ?_, ?_, ?_, ?_, ui_same _ _ _ _⟩ (fun q hq => absurd hq (by omega))
  · rw [ui_idx (by omega), ui_idx (by omega), ui_idx (by omega), ui_idx (by omega), ui_idx (by omega), ui_same]
  · rw [ui_idx (by omega), ui_idx (by omega), ui_idx (by omega), ui_idx (by omega), ui_same]
  · rw [ui_idx (by omega), ui_idx (by omega), ui_idx (by omega), ui_same]
  · rw [ui_idx (by omega), ui_idx (by omega), ui_same]
  · rw [ui_idx (by omega), ui_same]
