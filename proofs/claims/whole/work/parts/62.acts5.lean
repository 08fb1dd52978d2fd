/-! ===== summers ===== -/
def smS (D : Nat → Nat) (a : Nat) (H : Nat → Nat → Nat) : Nat → (Nat → Nat) × Nat × (Nat → Nat → Nat)
  | 0 => (D, a, H)
  | k + 1 => (psD (smS D a H k).1, min 40 ((smS D a H k).2.1 + 1), hpush (smS D a H k).2.1 (smS D a H k).2.2 (smS D a H k).1)
theorem smS_ok {n : Nat} {E D : Nat → Nat} {dry a : Nat} {H : Nat → Nat → Nat} (hb : bk_ok n E D dry) (hl : lg_ok D) (hh : hi_ok n a E dry H) : ∀ k, D 86 + k ≤ 999 → bk_ok n E (smS D a H k).1 dry ∧ lg_ok (smS D a H k).1 ∧ hi_ok n (smS D a H k).2.1 E dry (smS D a H k).2.2 ∧ (smS D a H k).1 86 = D 86 + k
  | 0, _ => ⟨hb, hl, hh, rfl⟩
  | k + 1, hk => by
    obtain ⟨h1, h2, h3, h4⟩ := smS_ok hb hl hh k (by omega)
    refine ⟨psD_ok h1 (by omega), psD_lg h1.2.2.2.1 h2 (by omega), hpush_ok h3 h1 h2, ?_⟩
    show psD (smS D a H k).1 86 = _
    rw [psD_86, h4]; omega
theorem may_C (s : Nat) (x : Int32) (hs : s ≤ 999) : (¬ x < (1 : Int32) ∧ (¬ (60 : Int32) < x ∧ ¬ (999 : Int32) < nI s + x)) ↔ ∃ m, 1 ≤ m ∧ m ≤ 60 ∧ s + m ≤ 999 ∧ x = nI m := by
  constructor
  · rintro ⟨q1, q2, q3⟩
    obtain ⟨m, h1, h2, rfl⟩ := (in_R x 1 60).mp ⟨q1, q2⟩
    rw [n_add] at q3
    exact ⟨m, h1, h2, Nat.not_lt.mp (fun z => q3 ((n_lt 999 (s + m)).mpr z)), rfl⟩
  · rintro ⟨m, h1, h2, h3, rfl⟩
    have := (in_R (nI m) 1 60).mpr ⟨m, h1, h2, rfl⟩
    refine ⟨this.1, this.2, ?_⟩
    rw [n_add]; exact fun z => absurd ((n_lt 999 (s + m)).mp z) (by omega)
theorem may_M (s : Nat) (x : Int32) (hs : s ≤ 999) : ((¬ x < (1 : Int32) ∧ ¬ (60 : Int32) < x) ∧ ¬ (999 : Int32) < nI s + x) ↔ ∃ m, 1 ≤ m ∧ m ≤ 60 ∧ s + m ≤ 999 ∧ x = nI m := by
  rw [← may_C s x hs, and_assoc]
theorem good_summers {j : Nat} {σ τ : ax_S} (hj : j ≤ 1000) (h : RR j σ τ) (x : Int32) : good j mX11_summers mX12_summers [ax_i x] σ τ := by
  obtain ⟨n, E, D, dry, lw, ho, L, a, T, H, hb, hlg, -, hh, hT, hCB, hMB, -, -, hnext⟩ := h.belt
  have hn := hb.2.1
  have h86 := hb.2.2.2.2.2.1
  have e9 : σ.1 5 9 = nI n := hCB.1.1
  have e23 : τ.1 0 23 = nI n := hMB.1.1
  have e14 : σ.1 5 14 = nI (D 86) := hCB.1.2.2.2.2.1
  have e86 : τ.1 15 86 = nI (D 86) := hMB.1.2.2.1 86 (by omega)
  by_cases g0 : n = 0
  · have g1 : ¬ ¬ σ.1 5 9 ≤ 0 := not_not_intro ((hb_C e9 hn).mpr g0)
    have g2 : ¬ ¬ τ.1 0 23 = 0 := not_not_intro ((hb_M e23 hn).mpr g0)
    refine good_refuse h (i := 0) (by omega) ?_ ?_
    · refine ax_Ct.of (lv := [some (ax_r 0), some (ax_i x), none]) (by decide +kernel) (fun ad => Nat.le_of_ble_eq_true rfl) (fun ad => rfl) ?_
      refine s_X11_summers_0 (d := 59) (by omega) σ _ ?_ ?_ ?_ <;> intros <;> try contradiction
      exact ⟨rfl, rfl⟩
    · refine ax_Ct.of (lv := [some (ax_r 0), some (ax_i x), none]) (by decide +kernel) (fun ad => Nat.le_of_ble_eq_true rfl) (fun ad => rfl) ?_
      refine s_X12_summers_0 (d := 59) (by omega) τ _ (fun z => absurd z g2) ?_
      rw [if_neg g2]
      refine (ct_refused (by omega) τ (i := 0) (by omega)).mono (fun r u hu => ⟨_, hu.1, s_X12_summers_28 (by omega) u _ _ (fun z => absurd z (by decide)) (fun _ => ⟨rfl, hu.2⟩)⟩)
  have g1 : ¬ σ.1 5 9 ≤ 0 := fun z => g0 ((hb_C e9 hn).mp z)
  have g2 : ¬ τ.1 0 23 = 0 := fun z => g0 ((hb_M e23 hn).mp z)
  by_cases g : ∃ m, 1 ≤ m ∧ m ≤ 60 ∧ D 86 + m ≤ 999 ∧ x = nI m
  · have g3 := (may_C (D 86) x h86).mpr g
    have g4 := (may_M (D 86) x h86).mpr g
    rw [← e14] at g3
    rw [← e86] at g4
    obtain ⟨m, hm1, hm, hm9, rfl⟩ := g
    have hs := smS_ok hb hlg hh
    refine ⟨nI (D 86 + m), (fun u => fo SB u σ ∧ CB u n E (smS D a H m).1 dry (smS D a H m).2.1 T (smS D a H m).2.2), (fun w => fo SM w τ ∧ MB w n E (smS D a H m).1 dry (smS D a H m).2.1 (smS D a H m).2.2), ?_, ?_, ?_⟩
    · refine ax_Ct.of (lv := [some (ax_r 0), some (ax_i (nI m)), none]) (by decide +kernel) (fun ad => Nat.le_of_ble_eq_true rfl) (fun ad => rfl) ?_
      refine s_X11_summers_0 (d := 59) (by omega) σ _ ?_ ?_ ?_ <;> intros <;> try contradiction
      have loop := lp_up (m := m) (P := fun k => ∀ u, fo SB u σ → CB u n E (smS D a H k).1 dry (smS D a H k).2.1 T (smS D a H k).2.2 → ax_W shC (59 + 1) mX11_summers (fun r u => r = some (ax_i (nI (D 86 + m))) ∧ fo SB u σ ∧ CB u n E (smS D a H m).1 dry (smS D a H m).2.1 T (smS D a H m).2.2) 29 [some (ax_r 0), some (ax_i (nI m)), some (ax_i (nI k))] [] u) ?_ ?_
      · exact loop 0 (by omega) σ fo.rfl' hCB
      · intro u hf hu
        have g : nI m ≤ nI m := (n_le m m).mpr (Nat.le_refl _)
        refine s_X11_summers_29 (by omega) u _ _ ?_ ?_ <;> intros <;> try contradiction
        exact ⟨by rw [hu.1.2.2.2.2.1, (hs m hm9).2.2.2], hf, hu⟩
      · intro k hk ih u hf hu
        have g : ¬ nI m ≤ nI k := fun z => absurd ((n_le m k).mp z) (by omega)
        obtain ⟨s1, s2, s3, s4⟩ := hs k (by omega)
        refine s_X11_summers_29 (by omega) u _ _ ?_ ?_ <;> intros <;> try contradiction
        refine (ct_X11_remember (by omega) s1 hu.1 hu.2.1 s3.1 hu.2.2).mono ?_
        rintro r v ⟨rfl, hv, hR⟩
        obtain ⟨v1, v2⟩ := hu.kept hv
        refine ⟨rfl, s_X11_summers_38 (by omega) v _ _ ?_⟩
        refine (ct_X0_passSummer (by omega) s1 v1 v2).mono ?_
        rintro r w ⟨rfl, hw, w1, w2⟩
        refine ⟨rfl, s_X11_summers_45 (by omega) w _ _ ?_⟩
        rw [nI_1]
        have h84 := s1.2.2.2.1
        exact ih w ((hw.mono (fun c i h => by unfold SB rd_S; omega)).trans ((fo_SB hv).trans hf)) ⟨w1, w2, hR.next (fun j hj => psD_out h84 (by omega) (by omega) (by omega)) (fun c i hc => hw.1 c i (by omega))⟩
    · refine ax_Ct.of (lv := [some (ax_r 0), some (ax_i (nI m)), none]) (by decide +kernel) (fun ad => Nat.le_of_ble_eq_true rfl) (fun ad => rfl) ?_
      refine s_X12_summers_0 (d := 59) (by omega) τ _ (fun _ _ => n_in 86 268) ?_
      rw [if_pos g2, if_pos g4]
      refine (ct_allowed (by omega) τ).mono (fun r u hu => ⟨_, hu.1, ?_⟩)
      obtain ⟨-, rfl⟩ := hu
      refine s_X12_summers_28 (by omega) u _ _ (fun _ => ?_) (fun z => absurd rfl z)
      have loop := lp_up (m := m) (P := fun k => ∀ v, fo SM v u → MB v n E (smS D a H k).1 dry (smS D a H k).2.1 (smS D a H k).2.2 → ax_W shM (59 + 1) mX12_summers (fun r w => r = some (ax_i (nI (D 86 + m))) ∧ fo SM w u ∧ MB w n E (smS D a H m).1 dry (smS D a H m).2.1 (smS D a H m).2.2) 35 [some (ax_r 0), some (ax_i (nI m)), some (ax_i (nI k))] [] v) ?_ ?_
      · exact loop 0 (by omega) u fo.rfl' hMB
      · intro v hf hv
        have g : nI m ≤ nI m := (n_le m m).mpr (Nat.le_refl _)
        refine s_X12_summers_35 (by omega) v _ _ ?_ ?_ <;> intros <;> try contradiction
        exact ⟨by rw [hv.1.2.2.1 86 (by omega), (hs m hm9).2.2.2], hf, hv⟩
      · intro k hk ih v hf hv
        have g : ¬ nI m ≤ nI k := fun z => absurd ((n_le m k).mp z) (by omega)
        obtain ⟨s1, s2, s3, s4⟩ := hs k (by omega)
        refine s_X12_summers_35 (by omega) v _ _ ?_ ?_ <;> intros <;> try contradiction
        refine (ct_X12_keep (by omega) s3.1 hv.1.2.2.1 hv.2).mono ?_
        rintro r w ⟨rfl, hw, w1⟩
        have w2 := hv.kept hw
        refine ⟨rfl, s_X12_summers_44 (by omega) w _ _ ?_⟩
        refine (ct_X12_passSummer (by omega) s1 w2.2.2.1).mono ?_
        rintro r t ⟨rfl, ht, t1⟩
        refine ⟨rfl, s_X12_summers_48 (by omega) t _ _ ?_⟩
        rw [nI_1]
        exact ih t ((ht.mono (fun c i h => by unfold SM; omega)).trans ((fo_SM hw).trans hf)) ⟨w2.chg ht.1 t1, w1.to ht.1 (by omega)⟩
    · rintro u w ⟨fC, hu⟩ ⟨fM, hw⟩
      obtain ⟨s1, s2, s3, s4⟩ := hs m hm9
      exact hnext _ _ T _ u w s1 s2 s3 (by omega) fC.1 ⟨by rw [fC.2], by rw [fC.2]⟩ fM.1 hu hw
  · have g3 : ¬ (¬ x < (1 : Int32) ∧ (¬ (60 : Int32) < x ∧ ¬ (999 : Int32) < σ.1 5 14 + x)) := by rw [e14]; exact fun z => g ((may_C (D 86) x h86).mp z)
    have g4 : ¬ ((¬ x < (1 : Int32) ∧ ¬ (60 : Int32) < x) ∧ ¬ (999 : Int32) < τ.1 15 86 + x) := by rw [e86]; exact fun z => g ((may_M (D 86) x h86).mp z)
    refine good_refuse h (i := 1) (by omega) ?_ ?_
    · refine ax_Ct.of (lv := [some (ax_r 0), some (ax_i x), none]) (by decide +kernel) (fun ad => Nat.le_of_ble_eq_true rfl) (fun ad => rfl) ?_
      refine s_X11_summers_0 (d := 59) (by omega) σ _ ?_ ?_ ?_ <;> intros <;> try contradiction
      exact ⟨rfl, rfl⟩
    · refine ax_Ct.of (lv := [some (ax_r 0), some (ax_i x), none]) (by decide +kernel) (fun ad => Nat.le_of_ble_eq_true rfl) (fun ad => rfl) ?_
      refine s_X12_summers_0 (d := 59) (by omega) τ _ (fun _ _ => n_in 86 268) ?_
      rw [if_pos g2, if_neg g4]
      refine (ct_refused (by omega) τ (i := 1) (by omega)).mono (fun r u hu => ⟨_, hu.1, s_X12_summers_28 (by omega) u _ _ (fun z => absurd z (by decide)) (fun _ => ⟨rfl, hu.2⟩)⟩)
/-! ===== a wire more ===== -/
def thD (D : Nat → Nat) (x y : Nat) (j : Nat) : Nat := if j = 84 then D 84 + 1 else if j = 16 + 4 * D 84 then x else if j = 16 + 4 * D 84 + 1 then y else if j = 16 + 4 * D 84 + 2 then 0 else if j = 16 + 4 * D 84 + 3 then 0 else D j
theorem thD_ne {D : Nat → Nat} {x y j : Nat} (h : j ≠ 84) (h2 : ¬ (16 + 4 * D 84 ≤ j ∧ j < 16 + 4 * D 84 + 4)) : thD D x y j = D j := by
  unfold thD; rw [if_neg h, if_neg (by omega), if_neg (by omega), if_neg (by omega), if_neg (by omega)]
theorem thD_84 (D : Nat → Nat) (x y : Nat) : thD D x y 84 = D 84 + 1 := if_pos rfl
theorem thD_0 {D : Nat → Nat} (x y : Nat) (h : D 84 ≤ 16) : thD D x y (16 + 4 * D 84) = x := by unfold thD; rw [if_neg (by omega), if_pos rfl]
theorem thD_1 {D : Nat → Nat} (x y : Nat) (h : D 84 ≤ 16) : thD D x y (16 + 4 * D 84 + 1) = y := by unfold thD; rw [if_neg (by omega), if_neg (by omega), if_pos rfl]
theorem thD_2 {D : Nat → Nat} (x y : Nat) (h : D 84 ≤ 16) : thD D x y (16 + 4 * D 84 + 2) = 0 := by unfold thD; rw [if_neg (by omega), if_neg (by omega), if_neg (by omega), if_pos rfl]
theorem thD_3 {D : Nat → Nat} (x y : Nat) (h : D 84 ≤ 16) : thD D x y (16 + 4 * D 84 + 3) = 0 := by unfold thD; rw [if_neg (by omega), if_neg (by omega), if_neg (by omega), if_neg (by omega), if_pos rfl]
theorem thD_w {D : Nat → Nat} {x y w q : Nat} (h : D 84 ≤ 16) (hw : w < D 84) (hq : q < 4) : bk_w (thD D x y) w q = bk_w D w q := thD_ne (by omega) (by omega)
/-- how the class holds a wire that is only thought of -/
def th_C (u : ax_S) (n m x y : Nat) : Prop := u.1 28 m = nI x ∧ u.1 29 m = nI y ∧ u.1 30 m = 0 ∧ ∀ h, h < n → bt (u.1 31 h) m = (decide (x = h) || decide (y = h))
theorem ct_X0_think {d : Nat} (hd : 1 ≤ d) {σ : ax_S} {n : Nat} {E D : Nat → Nat} {dry x y : Nat} (hok : bk_ok n E D dry) (hC : bk_C σ n E D dry) (hsm : bk_sm σ) (hx : x < n) (hy : y < n) :
    ax_Ct shC d mX0_think [ax_r 5, ax_i (nI x), ax_i (nI y)] (fun r u => r = none ∧ fo (fun c i => (c = 5 ∧ i = 11) ∨ (28 ≤ c ∧ c ≤ 31)) u σ ∧ bk_C u n E D dry ∧ bk_sm u ∧ th_C u n (D 84) x y) σ := by
  obtain ⟨d, rfl⟩ : ∃ e, d = e + 1 := ⟨d - 1, by omega⟩
  have hn := hok.2.1
  have h84 := hok.2.2.2.1
  obtain ⟨p1, p2, p3, p4, p5, p6, p7, p8, p9⟩ := hC
  refine ax_Ct.of (lv := [some (ax_r 5), some (ax_i (nI x)), some (ax_i (nI y)), none]) (by decide +kernel) (fun ad => Nat.le_of_ble_eq_true rfl) (fun ad => rfl) ?_
  refine s_X0_think_0 (by omega) σ _ _ (by rw [p2]; exact n_in _ _) ?_
  rw [p2, n_tn (D 84)]
  let σ1 := ax_ui (ax_ui (ax_ui (ax_ui σ 28 (D 84) (nI x)) 29 (D 84) (nI y)) 30 (D 84) 0) 5 11 (σ.1 5 11 &&& ((1 : Int32) <<< (nI (D 84) &&& 31) ^^^ (-1)))
  have f1 : fo (fun c i => (c = 5 ∧ i = 11) ∨ (28 ≤ c ∧ c ≤ 30)) σ1 σ := (((fo.rfl'.ui (by omega)).ui (by omega)).ui (by omega)).ui (by omega)
  have q28 : σ1.1 28 (D 84) = nI x := by show (ax_ui _ 5 11 _).1 28 _ = _; rw [ui_cell (by omega), ui_cell (by omega), ui_cell (by omega), ui_same]
  have q29 : σ1.1 29 (D 84) = nI y := by show (ax_ui _ 5 11 _).1 29 _ = _; rw [ui_cell (by omega), ui_cell (by omega), ui_same]
  have q30 : σ1.1 30 (D 84) = 0 := by show (ax_ui _ 5 11 _).1 30 _ = _; rw [ui_cell (by omega), ui_same]
  have qw : ∀ c w, 28 ≤ c → c ≤ 30 → w ≠ D 84 → σ1.1 c w = σ.1 c w := fun c w h1 h2 h3 => by
    show (ax_ui _ 5 11 _).1 c w = _
    rw [ui_cell (by omega)]
    simp only [ui_any]
    rw [if_neg (fun q => h3 q.2), if_neg (fun q => h3 q.2), if_neg (fun q => h3 q.2)]
  have q11 : ∀ i, i < 32 → bt (σ1.1 5 11) i = (decide (i < D 84) && decide (bk_w D i 3 = 1)) := fun i hi => by
    show bt ((ax_ui _ 5 11 _).1 5 11) i = _
    rw [ui_same, b_and, pn_not _ i hi, pn_one (D 84) (by omega) i hi, p8 i hi]
    by_cases e : i = D 84
    · simp [e]
    · simp [e]
  have loop := lp_up (m := n) (P := fun k => ∀ u, fo (fun c i => c = 31) u σ1 → (∀ h, h < n → ∀ i, i < 32 → bt (u.1 31 h) i = (bt (σ.1 31 h) i && !(decide (h < k) && decide (i = D 84)))) → ax_W shC (d + 1) mX0_think (fun r u => r = none ∧ fo (fun c i => (c = 5 ∧ i = 11) ∨ (28 ≤ c ∧ c ≤ 31)) u σ ∧ bk_C u n E D dry ∧ bk_sm u ∧ th_C u n (D 84) x y) 49 [some (ax_r 5), some (ax_i (nI x)), some (ax_i (nI y)), some (ax_i (nI k))] [] u) ?_ ?_
  · refine loop 0 (by omega) σ1 fo.rfl' (fun h hh i hi => ?_)
    rw [f1.1 31 h (by omega)]; simp
  · intro u hf hu
    have e9 : u.1 5 9 = nI n := by rw [hf.1 5 9 (by omega), f1.1 5 9 (by omega)]; exact p1
    have e10 : u.1 5 10 = nI (D 84) := by rw [hf.1 5 10 (by omega), f1.1 5 10 (by omega)]; exact p2
    have g : u.1 5 9 ≤ nI n := by rw [e9]; exact (n_le _ _).mpr (Nat.le_refl _)
    refine s_X0_think_49 (by omega) u _ _ _ ?_ ?_ ?_ ?_ ?_ <;> intros <;> try contradiction
    · exact n_in x 8
    · exact n_in y 8
    · rw [e10, n_tn x, n_tn y]
      have f2 : fo (fun c i => c = 31) (ax_ui (ax_ui u 31 x (u.1 31 x ||| (1 : Int32) <<< (nI (D 84) &&& 31))) 31 y ((ax_ui u 31 x (u.1 31 x ||| (1 : Int32) <<< (nI (D 84) &&& 31))).1 31 y ||| (1 : Int32) <<< (nI (D 84) &&& 31))) σ1 := (hf.ui rfl).ui rfl
      have f3 : fo (fun c i => (c = 5 ∧ i = 11) ∨ (28 ≤ c ∧ c ≤ 31)) (ax_ui (ax_ui u 31 x (u.1 31 x ||| (1 : Int32) <<< (nI (D 84) &&& 31))) 31 y ((ax_ui u 31 x (u.1 31 x ||| (1 : Int32) <<< (nI (D 84) &&& 31))).1 31 y ||| (1 : Int32) <<< (nI (D 84) &&& 31))) σ := (f2.mono (fun c i h => by omega)).trans (f1.mono (fun c i h => by omega))
      have ht : ∀ h, h < n → ∀ i, i < 32 → bt ((ax_ui (ax_ui u 31 x (u.1 31 x ||| (1 : Int32) <<< (nI (D 84) &&& 31))) 31 y ((ax_ui u 31 x (u.1 31 x ||| (1 : Int32) <<< (nI (D 84) &&& 31))).1 31 y ||| (1 : Int32) <<< (nI (D 84) &&& 31))).1 31 h) i = ((bt (σ.1 31 h) i && !decide (i = D 84)) || (decide (i = D 84) && (decide (x = h) || decide (y = h)))) := fun h hh i hi => by
        have hb := pn_one (D 84) (by omega) i hi
        have hxx := hu h hh i hi
        have hn1 : decide (h < n) = true := by simp [hh]
        rw [hn1, Bool.true_and] at hxx
        simp only [ui_any, true_and]
        by_cases ha : h = y
        · subst ha
          rw [if_pos rfl]
          by_cases hb2 : h = x
          · rw [if_pos hb2, b_or, b_or, hb, ← hb2, hxx]
            by_cases q : i = D 84
            · simp [q]
            · simp [q]
          · rw [if_neg hb2, b_or, hb, hxx]
            by_cases q : i = D 84
            · simp [q]
            · simp [q]
        · rw [if_neg ha]
          by_cases hb2 : h = x
          · subst hb2
            rw [if_pos rfl, b_or, hb, hxx]
            by_cases q : i = D 84
            · simp [q]
            · simp [q]
          · rw [if_neg hb2, hxx]
            have n1 : ¬ x = h := fun e => hb2 e.symm
            have n2 : ¬ y = h := fun e => ha e.symm
            simp [n1, n2]
      refine ⟨rfl, f3, ⟨?_, ?_, ?_, ?_, ?_, fun h hh => ?_, fun w hw => ?_, fun i hi => ?_, fun h hh w hw => ?_⟩, fun w hw => ?_, ?_, ?_, ?_, fun h hh => ?_⟩
      · rw [f3.1 5 9 (by omega)]; exact p1
      · rw [f3.1 5 10 (by omega)]; exact p2
      · rw [f3.1 5 12 (by omega)]; exact p3
      · rw [f3.1 5 13 (by omega)]; exact p4
      · rw [f3.1 5 14 (by omega)]; exact p5
      · rw [f3.1 23 h (by omega), f3.1 24 h (by omega), f3.1 25 h (by omega), f3.1 26 h (by omega), f3.1 27 h (by omega)]; exact p6 h hh
      · rw [f2.1 28 w (by omega), f2.1 29 w (by omega), f2.1 30 w (by omega), qw 28 w (by omega) (by omega) (by omega), qw 29 w (by omega) (by omega) (by omega), qw 30 w (by omega) (by omega) (by omega)]; exact p7 w hw
      · rw [f2.1 5 11 (by omega)]; exact q11 i hi
      · rw [ht h hh w (by omega), p9 h hh w hw]
        have : ¬ w = D 84 := by omega
        simp [this]
      · rw [f2.1 28 w (by omega), f2.1 29 w (by omega), f2.1 30 w (by omega)]
        by_cases e : w = D 84
        · rw [e, q28, q29, q30]; exact ⟨x, y, 0, rfl, rfl, rfl, by omega, by omega, by omega⟩
        · rw [qw 28 w (by omega) (by omega) e, qw 29 w (by omega) (by omega) e, qw 30 w (by omega) (by omega) e]; exact hsm w hw
      · rw [f2.1 28 _ (by omega)]; exact q28
      · rw [f2.1 29 _ (by omega)]; exact q29
      · rw [f2.1 30 _ (by omega)]; exact q30
      · rw [ht h hh (D 84) (by omega)]; simp
  · intro k hk ih u hf hu
    have e9 : u.1 5 9 = nI n := by rw [hf.1 5 9 (by omega), f1.1 5 9 (by omega)]; exact p1
    have e10 : u.1 5 10 = nI (D 84) := by rw [hf.1 5 10 (by omega), f1.1 5 10 (by omega)]; exact p2
    have g : ¬ u.1 5 9 ≤ nI k := by rw [e9]; exact fun z => absurd ((n_le _ _).mp z) (by omega)
    refine s_X0_think_49 (by omega) u _ _ _ ?_ ?_ ?_ ?_ ?_ <;> intros <;> try contradiction
    · exact n_in k 8
    · rw [e10, n_tn k, nI_1]
      refine ih _ (hf.ui rfl) (fun h hh i hi => ?_)
      by_cases e : h = k
      · subst e
        rw [ui_same, b_and, pn_not _ i hi, pn_one (D 84) (by omega) i hi, hu h hh i hi]
        simp
      · rw [ui_idx e, hu h hh i hi]
        have : (h < k + 1) ↔ h < k := by omega
        simp [this]
theorem ct_X12_string {d : Nat} (hd : 2 ≤ d) {τ : ax_S} {D : Nat → Nat} (h84 : D 84 ≤ 16) (hm : mD τ D) (x y : Nat) :
    ax_Ct shM d mX12_string [ax_r 0, ax_i (nI x), ax_i (nI y), ax_i 0] (fun r u => r = some (ax_i (nI (D 84))) ∧ fo (fun c i => c = 15) u τ ∧ mD u (thD D x y)) τ := by
  have e84 : τ.1 15 84 = nI (D 84) := hm 84 (by omega)
  have i0 : (16 : Int32) + 4 * nI (D 84) + 0 = nI (16 + 4 * D 84 + 0) := n_w _ 0
  have i1 : (16 : Int32) + 4 * nI (D 84) + 1 = nI (16 + 4 * D 84 + 1) := n_w _ 1
  have i2 : (16 : Int32) + 4 * nI (D 84) + 2 = nI (16 + 4 * D 84 + 2) := n_w _ 2
  have i3 : (16 : Int32) + 4 * nI (D 84) + 3 = nI (16 + 4 * D 84 + 3) := n_w _ 3
  refine (f_X12_string τ (nI x) (nI y) 0 (n_in 84 268) (by rw [e84, i0]; exact n_in _ _) (by rw [e84, i1]; exact n_in _ _) (by rw [e84, i2]; exact n_in _ _) (by rw [e84, i3]; exact n_in _ _) hd).mono ?_
  rintro r u ⟨rfl, rfl⟩
  rw [e84, i0, i1, i2, i3, n_tn _, n_tn _, n_tn _, n_tn _, nI_1]
  refine ⟨rfl, ((((fo.rfl'.ui (by omega)).ui (by omega)).ui (by omega)).ui (by omega)).ui (by omega), ?_⟩
  refine (((((hm.set 84 (D 84 + 1)).set (16 + 4 * D 84 + 0) x).set (16 + 4 * D 84 + 1) y).set (16 + 4 * D 84 + 2) 0).set (16 + 4 * D 84 + 3) 0).cong (fun j hj => ?_)
  unfold thD dset
  repeat' split
  all_goals first | rfl | omega
/-- whether an uncut wire lies between two -/
def tied (D : Nat → Nat) (x y : Nat) : Nat → Bool
  | 0 => false
  | k + 1 => tied D x y k || (decide (bk_w D k 3 = 0) && ((decide (bk_w D k 0 = x) || decide (bk_w D k 1 = x)) && (decide (bk_w D k 0 = y) || decide (bk_w D k 1 = y))))
def tieW (D : Nat → Nat) (x y w : Nat) : Bool := decide (bk_w D w 3 = 0) && ((decide (bk_w D w 0 = x) || decide (bk_w D w 1 = x)) && (decide (bk_w D w 0 = y) || decide (bk_w D w 1 = y)))
theorem tied_iff (D : Nat → Nat) (x y : Nat) : ∀ k, tied D x y k = true ↔ ∃ w, w < k ∧ tieW D x y w = true
  | 0 => by simp [tied]
  | k + 1 => by
    rw [tied, Bool.or_eq_true, tied_iff D x y k]
    constructor
    · rintro (⟨w, h1, h2⟩ | h)
      · exact ⟨w, by omega, h2⟩
      · exact ⟨k, by omega, h⟩
    · rintro ⟨w, h1, h2⟩
      by_cases e : w = k
      · right; rw [e] at h2; exact h2
      · left; exact ⟨w, by omega, h2⟩
def chap (E : Nat → Nat) (x y : Nat) : Bool := decide (E (4 * x + 3) = 2) && decide (E (4 * y + 3) = 2)
/-- Belt.mayJoin -/
theorem ct_X0_mayJoin {d : Nat} (hd : 2 ≤ d) {σ : ax_S} {n : Nat} {E D : Nat → Nat} {dry x y : Nat} (hok : bk_ok n E D dry) (hC : bk_C σ n E D dry) (hx : x < n) (hy : y < n) :
    ax_Ct shC d mX0_mayJoin [ax_r 5, ax_i (nI x), ax_i (nI y)] (fun r u => r = some (ax_i (if chap E x y || tied D x y (D 84) then 0 else 1)) ∧ u = σ) σ := by
  obtain ⟨d, rfl⟩ : ∃ e, d = e + 1 := ⟨d - 1, by omega⟩
  have hn := hok.2.1
  have h84 := hok.2.2.2.1
  obtain ⟨p1, p2, p3, p4, p5, p6, p7, p8, p9⟩ := hC
  have ex := (p6 x hx).2.2.1
  have ey := (p6 y hy).2.2.1
  have bx := (hok.2.2.2.2.2.2.2.1 x hx).2.2.2.1
  have by' := (hok.2.2.2.2.2.2.2.1 y hy).2.2.2.1
  have key : ((((((1 : Int32) <<< (nI (D 84) &&& 31)) - 1) &&& (σ.1 5 11 ^^^ (-1))) &&& σ.1 31 x) &&& (((((1 : Int32) <<< (nI (D 84) &&& 31)) - 1) &&& (σ.1 5 11 ^^^ (-1))) &&& σ.1 31 y) = 0) ↔ tied D x y (D 84) = false := by
    have hbt : ∀ i, i < 32 → bt ((((((1 : Int32) <<< (nI (D 84) &&& 31)) - 1) &&& (σ.1 5 11 ^^^ (-1))) &&& σ.1 31 x) &&& (((((1 : Int32) <<< (nI (D 84) &&& 31)) - 1) &&& (σ.1 5 11 ^^^ (-1))) &&& σ.1 31 y)) i = (decide (i < D 84) && tieW D x y i) := fun i hi => by
      simp only [b_and]
      rw [pn_not _ i hi, pn_full (D 84) (by omega) i hi, p8 i hi]
      by_cases z : i < D 84
      · rw [p9 x hx i z, p9 y hy i z]
        have hc := (hok.2.2.2.2.2.2.2.2 i z).2.2.2.2
        unfold tieW
        obtain e | e : bk_w D i 3 = 0 ∨ bk_w D i 3 = 1 := by omega
        · rw [e]; simp [z]
        · rw [e]; simp
      · simp [z]
    constructor
    · intro e
      cases ht : tied D x y (D 84)
      · rfl
      · obtain ⟨w, hw1, hw2⟩ := (tied_iff D x y (D 84)).mp ht
        have := hbt w (by omega)
        rw [e, b_0, hw2] at this
        simp [hw1] at this
    · intro e
      refine b_ext fun i hi => ?_
      rw [hbt i hi, b_0]
      by_cases z : i < D 84
      · cases ht : tieW D x y i
        · simp
        · have := (tied_iff D x y (D 84)).mpr ⟨i, z, ht⟩
          rw [e] at this; simp at this
      · simp [z]
  have kx : (σ.1 26 (Int32.toNatClampNeg (nI x)) = (2 : Int32)) ↔ E (4 * x + 3) = 2 := by rw [n_tn x, ex]; exact n_eq _ 2
  have ky : (σ.1 26 (Int32.toNatClampNeg (nI y)) = (2 : Int32)) ↔ E (4 * y + 3) = 2 := by rw [n_tn y, ey]; exact n_eq _ 2
  have hfin : chap E x y = false → (if (¬ (¬ ((((((1 : Int32) <<< (σ.1 5 10 &&& 31)) - 1) &&& (σ.1 5 11 ^^^ (-1))) &&& σ.1 31 (Int32.toNatClampNeg (nI x))) &&& (((((1 : Int32) <<< (σ.1 5 10 &&& 31)) - 1) &&& (σ.1 5 11 ^^^ (-1))) &&& σ.1 31 (Int32.toNatClampNeg (nI y)))) = 0)) then (1 : Int32) else 0) = (if chap E x y || tied D x y (D 84) then 0 else 1) := fun hc => by
    rw [p2, n_tn x, n_tn y, hc, Bool.false_or]
    cases ht : tied D x y (D 84)
    · rw [if_pos (not_not_intro (key.mpr ht))]; rfl
    · rw [if_neg (fun q => by have := key.mp (Classical.not_not.mp q); rw [ht] at this; cases this)]; rfl
  refine ax_Ct.of (lv := [some (ax_r 5), some (ax_i (nI x)), some (ax_i (nI y))]) (by decide +kernel) (fun ad => Nat.le_of_ble_eq_true rfl) (fun ad => rfl) ?_
  refine s_X0_mayJoin_0 (by omega) σ _ _ (n_in x 8) (fun _ => n_in x 8) (fun _ => n_in y 8) (fun z => ?_) (fun _ => n_in y 8) (fun _ _ => n_in x 8) (fun _ _ => n_in y 8) (fun _ z => ?_) (fun z z2 => ?_)
  · refine ⟨?_, rfl⟩
    rw [hfin]
    have : ¬ E (4 * x + 3) = 2 := fun q => z (kx.mpr q)
    simp [chap, this]
  · refine ⟨?_, rfl⟩
    rw [hfin]
    have : ¬ E (4 * y + 3) = 2 := fun q => z (ky.mpr q)
    simp [chap, this]
  · have h1 := kx.mp (Classical.not_not.mp z)
    have h2 := ky.mp (Classical.not_not.mp z2)
    have : chap E x y = true := by simp [chap, h1, h2]
    refine ⟨?_, rfl⟩
    rw [this]; rfl
theorem ct_X12_areTied {d : Nat} (hd : 3 ≤ d) {τ : ax_S} {n : Nat} {E D : Nat → Nat} {dry x y : Nat} (hok : bk_ok n E D dry) (hm : mD τ D) (hx : x < n) (hy : y < n) :
    ax_Ct shM d mX12_areTied [ax_r 0, ax_i (nI x), ax_i (nI y)] (fun r u => r = some (ax_i (if tied D x y (D 84) then 1 else 0)) ∧ u = τ) τ := by
  obtain ⟨d, rfl⟩ : ∃ e, d = e + 1 := ⟨d - 1, by omega⟩
  have hn := hok.2.1
  have h84 := hok.2.2.2.1
  have e84 : τ.1 15 84 = nI (D 84) := hm 84 (by omega)
  refine ax_Ct.of (lv := [some (ax_r 0), some (ax_i (nI x)), some (ax_i (nI y)), none]) (by decide +kernel) (fun ad => Nat.le_of_ble_eq_true rfl) (fun ad => rfl) ?_
  refine s_X12_areTied_0 (by omega) τ _ _ ?_
  have loop := lp_up (m := D 84) (P := fun k => tied D x y k = false → ax_W shM (d + 1) mX12_areTied (fun r u => r = some (ax_i (if tied D x y (D 84) then 1 else 0)) ∧ u = τ) 2 [some (ax_r 0), some (ax_i (nI x)), some (ax_i (nI y)), some (ax_i (nI k))] [] τ) ?_ ?_
  · exact loop 0 (by omega) rfl
  · intro ht
    have g : τ.1 15 84 ≤ nI (D 84) := by rw [e84]; exact (n_le _ _).mpr (Nat.le_refl _)
    refine s_X12_areTied_2 (by omega) τ _ _ _ ?_ ?_ ?_ ?_ ?_ ?_ ?_ ?_ ?_ ?_ <;> intros <;> try contradiction
    rw [ht]; exact ⟨rfl, rfl⟩
  · intro k hk ih ht
    have g : ¬ τ.1 15 84 ≤ nI k := by rw [e84]; exact fun z => absurd ((n_le _ _).mp z) (by omega)
    obtain ⟨q1, q2, q3, q4, q5⟩ := hok.2.2.2.2.2.2.2.2 k hk
    have i3 : (16 : Int32) + 4 * nI k + 3 = nI (16 + 4 * k + 3) := n_w k 3
    have i0 : (16 : Int32) + 4 * nI k + 0 = nI (16 + 4 * k + 0) := n_w k 0
    have i1 : (16 : Int32) + 4 * nI k + 1 = nI (16 + 4 * k + 1) := n_w k 1
    have m3 : τ.1 15 (Int32.toNatClampNeg ((16 : Int32) + 4 * nI k + 3)) = nI (bk_w D k 3) := by rw [i3, n_tn _]; exact hm _ (by omega)
    have m0 : τ.1 15 (Int32.toNatClampNeg ((16 : Int32) + 4 * nI k + 0)) = nI (bk_w D k 0) := by rw [i0, n_tn _]; exact hm _ (by omega)
    have m1 : τ.1 15 (Int32.toNatClampNeg ((16 : Int32) + 4 * nI k + 1)) = nI (bk_w D k 1) := by rw [i1, n_tn _]; exact hm _ (by omega)
    have hat : ∀ v, v < n → ((τ.1 15 (Int32.toNatClampNeg ((16 : Int32) + 4 * nI k + 0)) = nI v ∨ ¬ ¬ τ.1 15 (Int32.toNatClampNeg ((16 : Int32) + 4 * nI k + 1)) = nI v) ↔ (decide (bk_w D k 0 = v) || decide (bk_w D k 1 = v)) = true) := fun v hv => by
      rw [m0, m1, n_eq _ _, n_eq _ _, Classical.not_not]; simp
    have h3 : (¬ τ.1 15 (Int32.toNatClampNeg ((16 : Int32) + 4 * nI k + 3)) = 0) ↔ ¬ bk_w D k 3 = 0 := by rw [m3]; exact not_congr (n_eq _ 0)
    have hgo : tieW D x y k = false → tied D x y (k + 1) = false := fun hq => by
      have : tied D x y (k + 1) = (tied D x y k || tieW D x y k) := rfl
      rw [this, ht, hq]; rfl
    refine s_X12_areTied_2 (by omega) τ _ _ _ (fun z => absurd z g) (fun _ => by rw [i3]; exact n_in _ _) (fun _ z => ?_) (fun _ _ => by rw [i0]; exact n_in _ _) (fun _ _ _ => by rw [i1]; exact n_in _ _) (fun _ _ z => ?_) (fun _ _ _ => by rw [i0]; exact n_in _ _) (fun _ _ _ _ => by rw [i1]; exact n_in _ _) (fun _ _ _ z => ?_) (fun _ z z1 z2 => ?_)
    · rw [nI_1]; exact ih (hgo (by have := h3.mp z; simp [tieW, this]))
    · rw [nI_1]; exact ih (hgo (by
        have := mt (hat x hx).mpr z
        rw [Bool.not_eq_true] at this
        unfold tieW; rw [this]; simp))
    · rw [nI_1]; exact ih (hgo (by
        have := mt (hat y hy).mpr z
        rw [Bool.not_eq_true] at this
        unfold tieW; rw [this]; simp))
    · have t3 : bk_w D k 3 = 0 := Classical.not_not.mp (fun q => z (h3.mpr q))
      have : tieW D x y k = true := by unfold tieW; rw [(hat x hx).mp z1, (hat y hy).mp z2, t3]; rfl
      have := (tied_iff D x y (D 84)).mpr ⟨k, hk, this⟩
      rw [this]; exact ⟨rfl, rfl⟩
/-- why no wire can be laid; 9: it can -/
def why (E D : Nat → Nat) (x y : Nat) : Nat := if tied D x y (D 84) || chap E x y || decide (D 84 = 16) then 2 else if D 85 < prc E x y then 4 else 9
def whyI (k : Nat) : Int32 := if k = 9 then -1 else nI k
theorem ct_X12_whyNot {d : Nat} (hd : 4 ≤ d) {τ : ax_S} {n : Nat} {E D : Nat → Nat} {dry x y : Nat} (hok : bk_ok n E D dry) (hM : bk_M τ n E D dry) (hx : x < n) (hy : y < n) (hxy : x ≠ y) :
    ax_Ct shM d mX12_whyNot [ax_r 0, ax_i (nI x), ax_i (nI y)] (fun r u => r = some (ax_i (whyI (why E D x y))) ∧ u = τ) τ := by
  obtain ⟨d, rfl⟩ : ∃ e, d = e + 1 := ⟨d - 1, by omega⟩
  have hn := hok.2.1
  have h84 := hok.2.2.2.1
  have h85 := hok.2.2.2.2.1
  have hm := hM.2.2.1
  have b1 : ¬ nI x < (0 : Int32) ∧ ¬ τ.1 0 23 - 1 < nI x := by rw [hM.1]; exact (is_Hm (nI x) n).mpr ⟨x, hx, rfl⟩
  have b2 : ¬ nI y < (0 : Int32) ∧ ¬ τ.1 0 23 - 1 < nI y := by rw [hM.1]; exact (is_Hm (nI y) n).mpr ⟨y, hy, rfl⟩
  have b3 : ¬ nI x = nI y := fun z => hxy ((n_eq x y).mp z)
  have bx := hok.2.2.2.2.2.2.2.1 x hx
  have by' := hok.2.2.2.2.2.2.2.1 y hy
  refine ax_Ct.of (lv := [some (ax_r 0), some (ax_i (nI x)), some (ax_i (nI y))]) (by decide +kernel) (fun ad => Nat.le_of_ble_eq_true rfl) (fun ad => rfl) ?_
  refine s_X12_whyNot_0 (by omega) τ _ _ ?_ ?_ ?_ ?_ <;> intros <;> try contradiction
  refine (ct_X12_areTied (by omega) hok hm hx hy).mono (fun r u hu => ⟨_, hu.1, ?_⟩)
  obtain ⟨-, rfl⟩ := hu
  have ix3 : (4 : Int32) * nI x + 3 = nI (4 * x + 3) := n_h x 3
  have iy3 : (4 : Int32) * nI y + 3 = nI (4 * y + 3) := n_h y 3
  have ix0 : (4 : Int32) * nI x + 0 = nI (4 * x + 0) := n_h x 0
  have iy0 : (4 : Int32) * nI y + 0 = nI (4 * y + 0) := n_h y 0
  have ex3 : u.1 14 (4 * x + 3) = nI (E (4 * x + 3)) := hM.2.2.2 x 3 hx (by omega)
  have ey3 : u.1 14 (4 * y + 3) = nI (E (4 * y + 3)) := hM.2.2.2 y 3 hy (by omega)
  have ex0 : u.1 14 (4 * x + 0) = nI (E (4 * x)) := hM.2.2.2 x 0 hx (by omega)
  have ey0 : u.1 14 (4 * y + 0) = nI (E (4 * y)) := hM.2.2.2 y 0 hy (by omega)
  have e84 : u.1 15 84 = nI (D 84) := hm 84 (by omega)
  have e85 : u.1 15 85 = nI (D 85) := hm 85 (by omega)
  refine s_X12_whyNot_29 (by omega) u _ _ _ (fun _ => by rw [ix3]; exact n_in _ _) (fun _ _ => by rw [iy3]; exact n_in _ _) (fun _ _ _ => by rw [ix0]; exact n_in _ _) (fun _ _ _ => by rw [iy0]; exact n_in _ _) ?_
  rw [ix3, iy3, ix0, iy0, n_tn (4 * x + 3), n_tn (4 * y + 3), n_tn (4 * x + 0), n_tn (4 * y + 0), ex3, ey3, ex0, ey0, e84, e85, n_price (by omega) (by omega)]
  refine ⟨?_, rfl⟩
  congr 2
  have hp := prc_b (E := E) bx.1 by'.1
  have hch : ((¬ (¬ nI (E (4 * x + 3)) = (2 : Int32))) ∧ (¬ (¬ nI (E (4 * y + 3)) = (2 : Int32)))) ↔ chap E x y = true := by
    rw [Classical.not_not, Classical.not_not, show (2 : Int32) = nI 2 from rfl, n_eq _ 2, n_eq _ 2]; simp [chap]
  have hpr : (nI (max 1 (dst (E (4 * x)) (E (4 * y)))) ≤ nI (D 85)) ↔ ¬ D 85 < prc E x y := by
    rw [n_le _ _ (by unfold prc at hp; omega)]; unfold prc; omega
  have h16 : (¬ nI (D 84) = (16 : Int32)) ↔ ¬ D 84 = 16 := not_congr (n_eq _ 16)
  unfold why whyI
  simp only [hch, hpr, h16]
  cases ht : tied D x y (D 84)
  · rw [if_neg (by simp)]
    cases hc : chap E x y
    · rw [if_neg (by simp)]
      by_cases q16 : D 84 = 16
      · simp [q16]; rfl
      · rw [if_pos q16]
        by_cases qp : D 85 < prc E x y
        · rw [if_neg (not_not_intro qp)]; simp [q16, qp]; rfl
        · rw [if_pos qp]; simp [q16, qp]
    · simp; rfl
  · simp; rfl
