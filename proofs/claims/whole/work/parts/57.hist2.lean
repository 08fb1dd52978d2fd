theorem pk_C.at {r r' : Nat → Int32} {b n : Nat} {D : Nat → Nat} (hn : n ≤ 8) (h : pk_C r b n D) (hr : ∀ j, b ≤ j → j < b + 35 → r' j = r j) : pk_C r' b n D := by
  obtain ⟨h1, h2, h3, h4, h5⟩ := h
  refine ⟨fun h hh => ?_, fun w hw => ?_, ?_, ?_, ?_⟩
  · rw [hr _ (by omega) (by omega), hr _ (by omega) (by omega)]; exact h1 h hh
  · obtain ⟨x, y, z, q, e, r⟩ := h2 w hw
    exact ⟨x, y, z, q, by rw [hr _ (by omega) (by omega)]; exact e, r⟩
  · rw [hr _ (by omega) (by omega)]; exact h3
  · rw [hr _ (by omega) (by omega)]; exact h4
  · rw [hr _ (by omega) (by omega)]; exact h5
/-- CopperTies.remember -/
theorem ct_X11_remember {d : Nat} (hd : 4 ≤ d) {σ : ax_S} {n : Nat} {E D : Nat → Nat} {dry a T : Nat} {H : Nat → Nat → Nat} (hok : bk_ok n E D dry) (hC : bk_C σ n E D dry) (hsm : bk_sm σ) (ha : a ≤ 40) (hH : hi_C σ n a T D H) :
    ax_Ct shC d mX11_remember [ax_r 0] (fun r u => r = none ∧ fo (fun c _ => c = 36 ∨ c = 7) u σ ∧ hi_R u n (min 40 (a + 1)) T D (hpush a H D)) σ := by
  obtain ⟨d, rfl⟩ : ∃ e, d = e + 2 := ⟨d - 2, by omega⟩
  have hn := hok.2.1
  obtain ⟨nx, te, x1, x2, x3, x4, x5, ⟨x6, x7⟩, x8⟩ := hH
  refine ax_Ct.of (lv := [some (ax_r 0)]) (by decide +kernel) (fun ad => Nat.le_of_ble_eq_true rfl) (fun ad => rfl) ?_
  refine s_X11_remember_0 (d := d + 1) (by omega) σ ?_
  refine ax_Ct.of (lv := [some (ax_r 7), some (ax_r 5), some (ax_i (σ.1 8 2)), none]) (by decide +kernel) (fun ad => Nat.le_of_ble_eq_true rfl) (fun ad => rfl) ?_
  refine s_X5_remember_0 (by omega) σ _ ?_
  have eb : σ.1 7 2 * 36 = nI (nx * 36) := by rw [x2]; exact n_mul nx 36
  rw [eb]
  refine (ct_X0_write (by omega) shC_36 (by omega) (by omega) (by omega) hok hC hsm).mono ?_
  rintro r u ⟨rfl, hf, hp⟩
  have i35 : nI (nx * 36) + (35 : Int32) = nI (nx * 36 + 35) := n_add _ 35
  refine ⟨rfl, s_X5_remember_17 (by omega) u _ _ (by rw [i35]; exact n_in _ _) ⟨rfl, s_X11_remember_18 (by omega) _ ?_⟩⟩
  have k7 : ∀ i, u.1 7 i = σ.1 7 i := fun i => hf.1 7 i (by omega)
  have e1 : (u.1 7 2 + 1) - (u.1 7 2 + 1) / 40 * 40 = nI ((nx + 1) % 40) := by
    rw [k7, x2, nI_1, show (40 : Int32) = nI 40 from rfl, n_rem (nx + 1) 40]
  have e2 : (if u.1 7 1 + 1 < (40 : Int32) then u.1 7 1 + 1 else (40 : Int32)) = nI (min 40 (a + 1)) := by
    rw [k7, x1, nI_1, show (40 : Int32) = nI 40 from rfl]
    by_cases z : a + 1 < 40
    · rw [if_pos ((n_lt _ _).mpr z)]; congr 1; omega
    · rw [if_neg (fun q => z ((n_lt _ _).mp q))]; congr 1; omega
  have k8 : u.1 8 2 = σ.1 8 2 := hf.1 8 2 (by omega)
  have k37 : u.1 37 = σ.1 37 := funext fun i => hf.1 37 i (by omega)
  rw [e1, e2, i35, n_tn _]
  have hrow : ∀ v w j, j ≠ nx * 36 + 35 → (ax_ui (ax_ui (ax_ui u 36 (nx * 36 + 35) (σ.1 8 2)) 7 2 v) 7 1 w).1 36 j = u.1 36 j := fun v w j hj => by
    rw [ui_cell (by omega), ui_cell (by omega), ui_idx hj]
  have hold : ∀ v w j, ¬ (nx * 36 ≤ j ∧ j < nx * 36 + 36) → (ax_ui (ax_ui (ax_ui u 36 (nx * 36 + 35) (σ.1 8 2)) 7 2 v) 7 1 w).1 36 j = σ.1 36 j := fun v w j hj => by
    rw [hrow v w j (by omega), hf.1 36 j (by omega)]
  refine ⟨rfl, ((((hf.mono (fun c i h => by omega) : fo (fun c _ => c = 36 ∨ c = 7) u σ).ui (by omega)).ui (by omega)).ui (by omega)), (nx + 1) % 40, (fun e => if a < 40 then (if e = a then T else te e) else (if e = 39 then T else te (e + 1))), ⟨?_, ?_, by omega, ?_, ?_, ⟨?_, ?_⟩, ?_⟩, ?_, by omega⟩
  · rw [ui_same]
  · rw [ui_idx (by omega), ui_same]
  · rw [ui_cell (by omega), ui_cell (by omega), ui_cell (by omega), k8, x4]
  · show lg_C ((ax_ui (ax_ui (ax_ui u 36 (nx * 36 + 35) (σ.1 8 2)) 7 2 _) 7 1 _).1 37) T D
    have : (ax_ui (ax_ui (ax_ui u 36 (nx * 36 + 35) (σ.1 8 2)) 7 2 (nI ((nx + 1) % 40))) 7 1 (nI (min 40 (a + 1)))).1 37 = σ.1 37 := funext fun j => by
      rw [ui_cell (by omega), ui_cell (by omega), ui_cell (by omega), k37]
    rw [this]; exact x5
  · intro e he
    by_cases z : a < 40
    · simp only [if_pos z]
      rw [if_neg (by omega)]
      by_cases q : e + 1 = a
      · rw [if_pos q]; exact x7 e q
      · rw [if_neg q]; exact x6 e (by omega)
    · simp only [if_neg z]
      rw [if_neg (by omega)]
      by_cases q : e + 1 = 39
      · rw [if_pos q]; exact x7 (e + 1) (by omega)
      · rw [if_neg q]; exact x6 (e + 1) (by omega)
  · intro e he
    by_cases z : a < 40
    · simp only [if_pos z]; rw [if_pos (by omega)]; omega
    · simp only [if_neg z]; rw [if_pos (by omega)]; omega
  · have hlg : (ax_ui (ax_ui (ax_ui u 36 (nx * 36 + 35) (σ.1 8 2)) 7 2 (nI ((nx + 1) % 40))) 7 1 (nI (min 40 (a + 1)))).1 37 = σ.1 37 := funext fun j => by
      rw [ui_cell (by omega), ui_cell (by omega), ui_cell (by omega), k37]
    rw [hlg]
    have hnew : ∀ v w, pk_C ((ax_ui (ax_ui (ax_ui u 36 (nx * 36 + 35) (σ.1 8 2)) 7 2 v) 7 1 w).1 36) (nx * 36) n D := fun v w => hp.at hn (fun j h1 h2 => hrow v w j (by omega))
    have hnew2 : ∀ v w, (ax_ui (ax_ui (ax_ui u 36 (nx * 36 + 35) (σ.1 8 2)) 7 2 v) 7 1 w).1 36 (nx * 36 + 35) = nI T := fun v w => by rw [ui_cell (by omega), ui_cell (by omega), ui_same, x4]
    intro e he
    by_cases z : a < 40
    · by_cases q : e = a
      · have hb : hi_b ((nx + 1) % 40) (min 40 (a + 1)) e = nx * 36 := by unfold hi_b; omega
        simp only [hpush, if_pos z, if_pos q]
        rw [hb]; exact ⟨hnew _ _, hnew2 _ _, x5⟩
      · have hb : hi_b ((nx + 1) % 40) (min 40 (a + 1)) e = hi_b nx a e := by unfold hi_b; omega
        have hd : ∀ j, hi_b nx a e ≤ j → j < hi_b nx a e + 36 → ¬ (nx * 36 ≤ j ∧ j < nx * 36 + 36) := by unfold hi_b; omega
        obtain ⟨y1, y2, y3⟩ := x8 e (by omega)
        simp only [hpush, if_pos z, if_neg q]
        rw [hb]; exact ⟨y1.at hn (fun j h1 h2 => hold _ _ j (hd j h1 (by omega))), by rw [hold _ _ _ (hd _ (by omega) (by omega))]; exact y2, y3⟩
    · by_cases q : e = 39
      · have hb : hi_b ((nx + 1) % 40) (min 40 (a + 1)) e = nx * 36 := by unfold hi_b; omega
        simp only [hpush, if_neg z, if_pos q]
        rw [hb]; exact ⟨hnew _ _, hnew2 _ _, x5⟩
      · have hb : hi_b ((nx + 1) % 40) (min 40 (a + 1)) e = hi_b nx a (e + 1) := by unfold hi_b; omega
        have hd : ∀ j, hi_b nx a (e + 1) ≤ j → j < hi_b nx a (e + 1) + 36 → ¬ (nx * 36 ≤ j ∧ j < nx * 36 + 36) := by unfold hi_b; omega
        obtain ⟨y1, y2, y3⟩ := x8 (e + 1) (by omega)
        simp only [hpush, if_neg z, if_neg q]
        rw [hb]; exact ⟨y1.at hn (fun j h1 h2 => hold _ _ j (hd j h1 (by omega))), by rw [hold _ _ _ (hd _ (by omega) (by omega))]; exact y2, y3⟩
  · intro e he
    by_cases z : a < 40
    · simp only [if_pos z]; rw [if_pos (by omega)]
    · simp only [if_neg z]; rw [if_pos (by omega)]
/-- the reference's keep -/
theorem w_X12_keep54 {d : Nat} {τ : ax_S} {D : Nat → Nat} {m : Nat} (hm : m < 40) (h37 : τ.1 0 37 = nI m) (hD : mD τ D) {Q : Option ax_V → ax_S → Prop}
    (hend : ∀ u, fo (fun c i => c = 21 ∨ (c = 0 ∧ i = 37)) u τ → u.1 0 37 = nI (m + 1) → (∀ j, j < 268 → u.1 21 (268 * m + j) = nI (D j)) → (∀ j, ¬ (268 * m ≤ j ∧ j < 268 * m + 268) → u.1 21 j = τ.1 21 j) → Q none u) :
    ax_W shM (d + 1) mX12_keep Q 54 [some (ax_r 0), some (ax_i 0)] [] τ := by
  have loop := lp_up (m := 268) (P := fun k => ∀ u, fo (fun c _ => c = 21) u τ → (∀ j, j < k → u.1 21 (268 * m + j) = nI (D j)) → (∀ j, ¬ (268 * m ≤ j ∧ j < 268 * m + 268) → u.1 21 j = τ.1 21 j) → ax_W shM (d + 1) mX12_keep Q 54 [some (ax_r 0), some (ax_i (nI k))] [] u) ?_ ?_
  · exact loop 0 (by omega) τ fo.rfl' (fun j h => absurd h (by omega)) (fun _ _ => rfl)
  · intro u hf h1 h2
    have g : (268 : Int32) ≤ nI 268 := by decide
    refine s_X12_keep_54 (by omega) u _ ?_ ?_ ?_ ?_ <;> intros <;> try contradiction
    have e : u.1 0 37 + 1 = nI (m + 1) := by rw [hf.1 0 37 (by omega), h37, nI_1]
    rw [e]
    exact hend _ ((hf.mono (fun c i h => Or.inl h)).ui (Or.inr ⟨rfl, rfl⟩)) (ui_same _ _ _ _) (fun j hj => by rw [ui_cell (by omega)]; exact h1 j hj) (fun j hj => by rw [ui_cell (by omega)]; exact h2 j hj)
  · intro k hk ih u hf h1 h2
    have g : ¬ (268 : Int32) ≤ nI k := fun z => absurd ((n_le 268 k).mp z) (by omega)
    have e : (268 : Int32) * u.1 0 37 + nI k = nI (268 * m + k) := by rw [hf.1 0 37 (by omega), h37, show (268 : Int32) = nI 268 from rfl, n_mul, n_add]
    refine s_X12_keep_54 (by omega) u _ ?_ ?_ ?_ ?_ <;> intros <;> try contradiction
    · exact n_in k 268
    · rw [e]; exact n_in _ _
    · rw [e, n_tn _, n_tn _, nI_1]
      refine ih _ (hf.ui rfl) (fun j hj => ?_) (fun j hj => ?_)
      · by_cases q : j = k
        · subst q; rw [ui_same, hf.1 15 j (by omega), hD j hk]
        · rw [ui_idx (by omega)]; exact h1 j (by omega)
      · rw [ui_idx (by omega)]; exact h2 j hj
theorem ct_X12_keep {d : Nat} (hd : 1 ≤ d) {τ : ax_S} {D : Nat → Nat} {a : Nat} {H : Nat → Nat → Nat} (ha : a ≤ 40) (hD : mD τ D) (hH : hi_M τ a H) :
    ax_Ct shM d mX12_keep [ax_r 0] (fun r u => r = none ∧ fo (fun c i => c = 21 ∨ (c = 0 ∧ i = 37)) u τ ∧ hi_M u (min 40 (a + 1)) (hpush a H D)) τ := by
  obtain ⟨d, rfl⟩ : ∃ e, d = e + 1 := ⟨d - 1, by omega⟩
  obtain ⟨h37, hrow⟩ := hH
  refine ax_Ct.of (lv := [some (ax_r 0), none]) (by decide +kernel) (fun ad => Nat.le_of_ble_eq_true rfl) (fun ad => rfl) ?_
  by_cases z : a < 40
  · have g : ¬ τ.1 0 37 = (40 : Int32) := by rw [h37]; exact fun q => absurd ((n_eq a 40).mp q) (by omega)
    refine s_X12_keep_0 (by omega) τ ?_ ?_ <;> intros <;> try contradiction
    refine w_X12_keep54 z h37 hD (fun u hf u1 u2 u3 => ⟨rfl, hf, ?_, fun e j he hj => ?_⟩)
    · rw [u1]; congr 1; omega
    · by_cases q : e = a
      · simp only [hpush, if_pos z, if_pos q]; rw [q]; exact u2 j hj
      · simp only [hpush, if_pos z, if_neg q]; rw [u3 _ (by omega)]; exact hrow e j (by omega) hj
  · have ea : a = 40 := by omega
    subst ea
    have g : ¬ ¬ τ.1 0 37 = (40 : Int32) := not_not_intro h37
    refine s_X12_keep_0 (by omega) τ ?_ ?_ <;> intros <;> try contradiction
    have loop := lp_up (m := 10720) (P := fun k => 268 ≤ k → ∀ u, fo (fun c _ => c = 21) u τ → (∀ j, u.1 21 j = if j + 268 < k then τ.1 21 (j + 268) else τ.1 21 j) → ax_W shM (d + 1) mX12_keep (fun r u => r = none ∧ fo (fun c i => c = 21 ∨ (c = 0 ∧ i = 37)) u τ ∧ hi_M u (min 40 (40 + 1)) (hpush 40 H D)) 13 [some (ax_r 0), some (ax_i (nI k))] [] u) ?_ ?_
    · exact loop 268 (by omega) (by omega) τ fo.rfl' (fun j => by rw [if_neg (by omega)])
    · intro _ u hf hu
      have g : (10720 : Int32) ≤ nI 10720 := by decide
      refine s_X12_keep_13 (by omega) u _ ?_ ?_ ?_ ?_ <;> intros <;> try contradiction
      have e : u.1 0 37 - 1 = nI 39 := by rw [hf.1 0 37 (by omega), h37]; rfl
      rw [e]
      refine w_X12_keep54 (m := 39) (by omega) (ui_same _ _ _ _) (D := D) (fun j hj => by rw [ui_cell (by omega), hf.1 15 j (by omega)]; exact hD j hj) (fun v hv v1 v2 v3 => ⟨rfl, hv.trans ((hf.mono (fun c i h => Or.inl h)).ui (Or.inr ⟨rfl, rfl⟩)), v1, fun e j he hj => ?_⟩)
      by_cases q : e = 39
      · simp only [hpush, if_neg z, if_pos q]; rw [q]; exact v2 j hj
      · simp only [hpush, if_neg z, if_neg q]
        rw [v3 _ (by omega), ui_cell (by omega), hu, if_pos (by omega), show 268 * e + j + 268 = 268 * (e + 1) + j by omega]
        exact hrow (e + 1) j (by omega) hj
    · intro k hk ih hk1 u hf hu
      have g : ¬ (10720 : Int32) ≤ nI k := fun z => absurd ((n_le 10720 k).mp z) (by omega)
      have e : nI k - (268 : Int32) = nI (k - 268) := n_sub k 268
      refine s_X12_keep_13 (by omega) u _ ?_ ?_ ?_ ?_ <;> intros <;> try contradiction
      · exact n_in _ _
      · rw [e]; exact n_in _ _
      · rw [e, n_tn _, n_tn _, nI_1]
        refine ih (by omega) _ (hf.ui rfl) (fun j => ?_)
        rw [ui_any]
        by_cases q : j = k - 268
        · rw [if_pos ⟨rfl, q⟩, if_pos (by omega), hu, if_neg (by omega), show j + 268 = k by omega]
        · rw [if_neg (fun r => q r.2), hu]
          by_cases q2 : j + 268 < k
          · rw [if_pos q2, if_pos (by omega)]
          · rw [if_neg q2, if_neg (by omega)]
def rd_S (c j : Nat) : Prop := (c = 5 ∧ (j = 10 ∨ j = 11 ∨ j = 12 ∨ j = 14)) ∨ c = 25 ∨ (27 ≤ c ∧ c ≤ 31)
/-- Belt.read -/
theorem ct_X0_read {d : Nat} (hd : 3 ≤ d) {σ : ax_S} {n : Nat} {E D I : Nat → Nat} {dry c N b : Nat} (hc : shC[c]? = some (Sum.inr (false, N))) (hc2 : c = 12 ∨ c = 36) (hb : b + 35 ≤ N) (hN : N ≤ 2000) (hok : bk_ok n E I dry) (hC : bk_C σ n E D dry) (hsm : bk_sm σ) (hp : pk_C (σ.1 c) b n I) :
    ax_Ct shC d mX0_read [ax_r 5, ax_r c, ax_i (nI b)] (fun r u => r = none ∧ fo rd_S u σ ∧ bk_C u n E I dry ∧ bk_sm u) σ := by
  obtain ⟨d, rfl⟩ : ∃ e, d = e + 1 := ⟨d - 1, by omega⟩
  have hok' := hok
  obtain ⟨h1, h2, h3, h4, h5, h6, h7, h8, h9⟩ := hok
  obtain ⟨c1, c2, c3, c4, c5, c6, c7, c8, c9⟩ := hC
  obtain ⟨p1, p2, p3, p4, p5⟩ := hp
  refine ax_Ct.of (lv := [some (ax_r 5), some (ax_r c), some (ax_i (nI b)), none, none, none]) (by decide +kernel) (fun ad => Nat.le_of_ble_eq_true rfl) (fun ad => rfl) ?_
  refine s_X0_read_0 (by omega) σ c N hc _ ?_
  have hrow : ∀ u, fo rd_S u σ → u.1 c = σ.1 c := fun u hf => funext fun j => hf.1 c j (by unfold rd_S; omega)
  have loop2 := lp_up (m := 16) (P := fun k => ∀ u, fo rd_S u σ → (∀ h, h < n → u.1 25 h = nI (I h) ∧ u.1 27 h = nI (I (8 + h))) →
      (∀ w, w < k → ∃ x y z, u.1 28 w = nI x ∧ u.1 29 w = nI y ∧ u.1 30 w = nI z ∧ x < 8 ∧ y < 8 ∧ z ≤ 9 ∧ (w < I 84 → x = bk_w I w 0 ∧ y = bk_w I w 1 ∧ z = bk_w I w 2)) → (u.1 28 16 = σ.1 28 16 ∧ u.1 29 16 = σ.1 29 16 ∧ u.1 30 16 = σ.1 30 16) →
      (∀ i, i < 32 → bt (u.1 5 11) i = (decide (i < k) && (decide (i < I 84) && decide (bk_w I i 3 = 1)))) →
      ax_W shC (d + 1) mX0_read (fun r u => r = none ∧ fo rd_S u σ ∧ bk_C u n E I dry ∧ bk_sm u) 52 [some (ax_r 5), some (ax_r c), none, some (ax_i (nI (b + 16))), some (ax_i (nI k)), none] [] u) ?_ ?_
  · have loop1 := lp_up (m := 8) (P := fun k => ∀ u, fo (fun c j => c = 25 ∨ c = 27) u σ → (∀ h, h < n → h < k → u.1 25 h = nI (I h) ∧ u.1 27 h = nI (I (8 + h))) →
      ax_W shC (d + 1) mX0_read (fun r u => r = none ∧ fo rd_S u σ ∧ bk_C u n E I dry ∧ bk_sm u) 2 [some (ax_r 5), some (ax_r c), some (ax_i (nI b)), some (ax_i (nI k)), none, none] [] u) ?_ ?_
    · exact loop1 0 (by omega) σ fo.rfl' (fun h _ hh => absurd hh (by omega))
    · intro u hf hu
      have g : (8 : Int32) ≤ nI 8 := by decide
      refine s_X0_read_2 (by omega) u c N hc _ _ ?_ ?_ ?_ ?_ ?_ <;> intros <;> try contradiction
      rw [show (16 : Int32) = nI 16 from rfl, n_add]
      refine loop2 0 (by omega) _ ((hf.mono (fun c j h => by unfold rd_S; omega)).ui (by unfold rd_S; omega)) (fun h hh => ?_) (fun w hw => absurd hw (by omega)) ⟨?_, ?_, ?_⟩ (fun i hi => ?_)
      · rw [ui_cell (by omega), ui_cell (by omega)]; exact hu h hh (by omega)
      · rw [ui_cell (by omega), hf.1 28 16 (by omega)]
      · rw [ui_cell (by omega), hf.1 29 16 (by omega)]
      · rw [ui_cell (by omega), hf.1 30 16 (by omega)]
      · rw [ui_same, b_0]; simp
    · intro k hk ih u hf hu
      have g : ¬ (8 : Int32) ≤ nI k := fun z => absurd ((n_le 8 k).mp z) (by omega)
      have i1 : nI b + nI k = nI (b + k) := n_add b k
      have i2 : nI b + (8 : Int32) + nI k = nI (b + 8 + k) := by rw [show (8 : Int32) = nI 8 from rfl, n_add, n_add]
      refine s_X0_read_2 (by omega) u c N hc _ _ ?_ ?_ ?_ ?_ ?_ <;> intros <;> try contradiction
      · rw [i1]; exact n_in _ _
      · exact n_in k 8
      · rw [i2]; exact n_in _ _
      · rw [i1, i2, n_tn k, n_tn (b + k), n_tn (b + 8 + k), nI_1]
        refine ih _ ((hf.ui (by omega)).ui (by omega)) (fun h hh hk1 => ?_)
        by_cases e : h = k
        · subst e
          refine ⟨?_, ?_⟩
          · rw [ui_cell (by omega), ui_same, hf.1 c _ (by omega), (p1 h hh).1]
          · rw [ui_same, ui_cell (by omega), hf.1 c _ (by omega), (p1 h hh).2]
        · obtain ⟨u1, u2⟩ := hu h hh (by omega)
          exact ⟨by rw [ui_cell (by omega), ui_idx e]; exact u1, by rw [ui_idx e, ui_cell (by omega)]; exact u2⟩
  · intro u hf hu hw h16 hcut
    have g : (16 : Int32) ≤ nI 16 := by decide
    have i0 : nI (b + 16) + (16 : Int32) = nI (b + 32) := n_add (b + 16) 16
    have i1 : nI (b + 32) + (1 : Int32) = nI (b + 33) := n_add (b + 32) 1
    have i2 : nI (b + 32) + (2 : Int32) = nI (b + 34) := n_add (b + 32) 2
    have hr := hrow u hf
    refine s_X0_read_52 (by omega) u c N hc _ _ ?_ ?_ ?_ ?_ ?_ ?_ ?_ <;> intros <;> try contradiction
    · rw [i0]; exact n_in _ _
    · rw [i0, i1]; exact n_in _ _
    · rw [i0, i2]; exact n_in _ _
    · rw [i0, i1, i2, n_tn _, n_tn _, n_tn _, ui_cell (by omega), ui_cell (by omega), ui_cell (by omega), hr, p3, p4, p5]
      have hww : ∀ w, w < I 84 → u.1 28 w = nI (bk_w I w 0) ∧ u.1 29 w = nI (bk_w I w 1) ∧ u.1 30 w = nI (bk_w I w 2) := fun w hw84 => by
        obtain ⟨x, y, z, s1, s2, s3, -, -, -, s4⟩ := hw w (by omega)
        obtain ⟨q1, q2, q3⟩ := s4 hw84
        rw [s1, s2, s3, q1, q2, q3]; exact ⟨rfl, rfl, rfl⟩
      refine (ct_X0_touchAnew (by omega) (m := I 84) (fr := fun w => bk_w I w 0) (to := fun w => bk_w I w 1) (by omega) ?_ (fun w hw84 => ?_)).mono ?_
      · rw [ui_idx (by omega), ui_idx (by omega), ui_same]
      · have b9 := h9 w hw84
        refine ⟨?_, ?_, by omega, by omega⟩
        · rw [ui_cell (by omega), ui_cell (by omega), ui_cell (by omega)]; exact (hww w hw84).1
        · rw [ui_cell (by omega), ui_cell (by omega), ui_cell (by omega)]; exact (hww w hw84).2.1
      · rintro r v ⟨rfl, hv, ht⟩
        refine ⟨rfl, s_X0_read_165 (by omega) v ?_⟩
        have fin : fo rd_S v σ := (hv.mono (fun c j h => by unfold rd_S; omega)).trans (((hf.ui (by unfold rd_S; omega)).ui (by unfold rd_S; omega)).ui (by unfold rd_S; omega))
        have v5 : v.1 5 10 = nI (I 84) ∧ v.1 5 12 = nI (I 85) ∧ v.1 5 14 = nI (I 86) ∧ v.1 5 11 = u.1 5 11 := by
          rw [hv.1 5 10 (by omega), hv.1 5 11 (by omega), hv.1 5 12 (by omega), hv.1 5 14 (by omega)]
          refine ⟨?_, ?_, ?_, ?_⟩
          · rw [ui_idx (by omega), ui_idx (by omega), ui_same]
          · rw [ui_idx (by omega), ui_same]
          · rw [ui_same]
          · rw [ui_idx (by omega), ui_idx (by omega), ui_idx (by omega)]
        have vc : ∀ q j, 23 ≤ q ∧ q ≤ 30 → v.1 q j = u.1 q j := fun q j hq => by
          rw [hv.1 q j (by omega), ui_cell (by omega), ui_cell (by omega), ui_cell (by omega)]
        refine ⟨rfl, fin, ⟨?_, v5.1, v5.2.1, ?_, v5.2.2.1, fun h hh => ?_, fun w hw84 => ?_, fun i hi => ?_, fun h hh w hw84 => ?_⟩, fun w hw17 => ?_⟩
        · rw [fin.1 5 9 (by unfold rd_S; omega)]; exact c1
        · rw [fin.1 5 13 (by unfold rd_S; omega)]; exact c4
        · rw [fin.1 23 h (by unfold rd_S; omega), fin.1 24 h (by unfold rd_S; omega), fin.1 26 h (by unfold rd_S; omega), vc 25 h (by omega), vc 27 h (by omega)]
          exact ⟨(c6 h hh).1, (c6 h hh).2.1, (c6 h hh).2.2.1, (hu h hh).1, (hu h hh).2⟩
        · rw [vc 28 w (by omega), vc 29 w (by omega), vc 30 w (by omega)]; exact hww w hw84
        · rw [v5.2.2.2, hcut i hi]
          by_cases q : i < I 84
          · have : i < 16 := by omega
            simp [q, this]
          · simp [q]
        · rw [ht h (by omega) w (by omega)]; simp [hw84]
        · rw [vc 28 w (by omega), vc 29 w (by omega), vc 30 w (by omega)]
          by_cases q : w < 16
          · obtain ⟨x, y, z, s1, s2, s3, s4, s5, s6, -⟩ := hw w q
            exact ⟨x, y, z, s1, s2, s3, s4, s5, s6⟩
          · have : w = 16 := by omega
            subst this
            rw [h16.1, h16.2.1, h16.2.2]; exact hsm 16 (by omega)
  · intro k hk ih u hf hu hw h16 hcut
    have g : ¬ (16 : Int32) ≤ nI k := fun z => absurd ((n_le 16 k).mp z) (by omega)
    have i1 : nI (b + 16) + nI k = nI (b + 16 + k) := n_add _ k
    obtain ⟨x, y, z, q, e, x8, y8, z9, q1, r1, r2⟩ := p2 k hk
    obtain ⟨t1, t2, t3, t4⟩ := pk_unp x x8 y y8 z (by omega) q (by omega)
    refine s_X0_read_52 (by omega) u c N hc _ _ ?_ ?_ ?_ ?_ ?_ ?_ ?_ <;> intros <;> try contradiction
    · rw [i1]; exact n_in _ _
    · exact n_in k 17
    · rw [i1, n_tn k, n_tn (b + 16 + k), nI_1, hrow u hf, e, t1, t2, t3, t4]
      refine ih _ ((((hf.ui (by unfold rd_S; omega)).ui (by unfold rd_S; omega)).ui (by unfold rd_S; omega)).ui (by unfold rd_S; omega)) (fun h hh => ?_) (fun w hw1 => ?_) ⟨?_, ?_, ?_⟩ (fun i hi => ?_)
      · rw [ui_cell (by omega), ui_cell (by omega), ui_cell (by omega), ui_cell (by omega), ui_cell (by omega), ui_cell (by omega), ui_cell (by omega), ui_cell (by omega)]; exact hu h hh
      · by_cases ew : w = k
        · subst ew
          refine ⟨x, y, z, ?_, ?_, ?_, x8, y8, z9, fun h84 => ⟨(r1 h84).1, (r1 h84).2.1, (r1 h84).2.2.1⟩⟩
          · rw [ui_cell (by omega), ui_cell (by omega), ui_cell (by omega), ui_same]
          · rw [ui_cell (by omega), ui_cell (by omega), ui_same]
          · rw [ui_cell (by omega), ui_same]
        · obtain ⟨x', y', z', s1, s2, s3, s4⟩ := hw w (by omega)
          refine ⟨x', y', z', ?_, ?_, ?_, s4⟩
          · rw [ui_cell (by omega), ui_cell (by omega), ui_cell (by omega), ui_idx ew]; exact s1
          · rw [ui_cell (by omega), ui_cell (by omega), ui_idx ew, ui_cell (by omega)]; exact s2
          · rw [ui_cell (by omega), ui_idx ew, ui_cell (by omega), ui_cell (by omega)]; exact s3
      · rw [ui_cell (by omega), ui_cell (by omega), ui_cell (by omega), ui_idx (by omega)]; exact h16.1
      · rw [ui_cell (by omega), ui_cell (by omega), ui_idx (by omega), ui_cell (by omega)]; exact h16.2.1
      · rw [ui_cell (by omega), ui_idx (by omega), ui_cell (by omega), ui_cell (by omega)]; exact h16.2.2
      · rw [ui_same, b_or, hcut i hi]
        have hq : bt (nI q <<< (nI k &&& 31)) i = (decide (i = k) && decide (q = 1)) := by
          obtain rfl | rfl : q = 0 ∨ q = 1 := by omega
          · rw [b_shl k (by omega) _ hi, show bt (nI 0) (i - k) = false from b_0 _]; simp
          · rw [show nI 1 = (1 : Int32) from rfl, pn_one k (by omega) i hi]; simp
        rw [hq]
        by_cases ei : i = k
        · subst ei
          by_cases q84 : i < I 84
          · rw [(r1 q84).2.2.2]; simp [q84]
          · rw [r2 (by omega)]; simp [q84]
        · have : (i < k + 1) ↔ i < k := by omega
          simp [ei, this]
