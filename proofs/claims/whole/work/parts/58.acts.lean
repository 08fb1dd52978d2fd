/-! ===== acts: the belt and its history, seen by themselves ===== -/
def SB (c j : Nat) : Prop := rd_S c j ∨ c = 7 ∨ (c = 8 ∧ j = 2) ∨ c = 36 ∨ c = 37 ∨ scC c j
def SM (c j : Nat) : Prop := c = 15 ∨ c = 21 ∨ (c = 0 ∧ j = 37) ∨ scM c j
def CB (σ : ax_S) (n : Nat) (E D : Nat → Nat) (dry a T : Nat) (H : Nat → Nat → Nat) : Prop := bk_C σ n E D dry ∧ bk_sm σ ∧ hi_C σ n a T D H
def MB (τ : ax_S) (n : Nat) (E D : Nat → Nat) (dry a : Nat) (H : Nat → Nat → Nat) : Prop := bk_M τ n E D dry ∧ hi_M τ a H
def k17 (u σ : ax_S) : Prop := u.2 0 17 = σ.2 0 17 ∧ u.2 0 18 = σ.2 0 18
theorem RR.belt {j : Nat} {σ τ : ax_S} (h : RR j σ τ) : ∃ (n : Nat) (E D : Nat → Nat) (dry lw ho : Nat) (L : Nat → List (List (Nat × Nat) × List (Nat × Nat))) (a T : Nat) (H : Nat → Nat → Nat),
    bk_ok n E D dry ∧ lg_ok D ∧ lwok lw ho L ∧ hi_ok n a E dry H ∧ T ≤ 60 * (j + 1) ∧ CB σ n E D dry a T H ∧ MB τ n E D dry a H ∧ lwC σ lw ho L ∧ lwM τ lw ho L ∧
    ∀ (D' : Nat → Nat) (a' T' : Nat) (H' : Nat → Nat → Nat) (u w : ax_S), bk_ok n E D' dry → lg_ok D' → hi_ok n a' E dry H' → T' ≤ 60 * (j + 2) → fk SB u σ → k17 u σ → fk SM w τ → CB u n E D' dry a' T' H' → MB w n E D' dry a' H' → RR (j + 1) u w := by
  obtain ⟨tl, tp, n, E, D, dry, lw, ho, L, st, ki, rf, nc, no, tc, te, a, T, H, im, I, ⟨o1, o2, o3, o4, o5, o6, o7, o8, o9, o10, o11⟩, ⟨c1, c2, c3, c4, c5, c6, c7, c8, c9⟩, ⟨m1, m2, m3, m4, m5, m6, m7, m8⟩⟩ := h
  refine ⟨n, E, D, dry, lw, ho, L, a, T, H, o2, o3, o4, o9, o11, ⟨c2, c3, c8⟩, ⟨m2, m7⟩, c4, m3, ?_⟩
  rintro D' a' T' H' u w p1 p2 p3 p4 fC hk fM ⟨q1, q2, q3⟩ ⟨q4, q5⟩
  refine ⟨tl, tp, n, E, D', dry, lw, ho, L, st, ki, rf, nc, no, tc, te, a', T', H', im, I, ⟨o1, p1, p2, o4, o5, o6, o7, o8, p3, o10, by omega⟩, ⟨c1.to fC ?_, q1, q2, c4.to fC ?_, c5.to fC ?_, c6.to fC ?_, c7.to fC hk ?_, q3, c9.to fC ?_⟩, ⟨m1.to fM ?_, q4, m3.to fM ?_, m4.to fM ?_, m5.to fM ?_, m6.to fM ?_, q5, m8.to fM ?_⟩⟩
  all_goals (intro c i hs; first | (unfold SB rd_S scC scr at hs; omega) | (unfold SM scM scm at hs; omega))
theorem RR.refuse {j : Nat} {σ τ : ax_S} (h : RR j σ τ) {i : Nat} (hi : i < 5) : RR (j + 1) (ax_ui σ 13 i (σ.1 13 i + 1)) (ax_ui τ 16 i (τ.1 16 i + 1)) := by
  obtain ⟨tl, tp, n, E, D, dry, lw, ho, L, st, ki, rf, nc, no, tc, te, a, T, H, im, I, ⟨o1, o2, o3, o4, o5, o6, o7, o8, o9, o10, o11⟩, ⟨c1, c2, c3, c4, c5, c6, c7, c8, c9⟩, ⟨m1, m2, m3, m4, m5, m6, m7, m8⟩⟩ := h
  have fC : fk (fun c _ => c = 13) (ax_ui σ 13 i (σ.1 13 i + 1)) σ := (fo.rfl'.ui rfl : fo (fun c _ => c = 13) _ σ).1
  have fM : fk (fun c _ => c = 16) (ax_ui τ 16 i (τ.1 16 i + 1)) τ := (fo.rfl'.ui rfl : fo (fun c _ => c = 16) _ τ).1
  refine ⟨tl, tp, n, E, D, dry, lw, ho, L, st, ki, (fun k => if k = i then rf i + 1 else rf k), nc, no, tc, te, a, T, H, im, I, ⟨o1, o2, o3, o4, o5, o6, o7, o8, o9, o10, by omega⟩, ⟨c1.to fC (by omega), c2.to fC (by omega), c3.to fC (by omega), c4.to fC (by omega), ?_, c6.to fC (by omega), c7.to fC ⟨rfl, rfl⟩ (by omega), c8.to fC (by omega), c9.to fC (by omega)⟩, ⟨m1.to fM (by omega), m2.to fM (by omega), m3.to fM (by omega), ?_, m5.to fM (by omega), m6.to fM (by omega), m7.to fM (by omega), m8.to fM (by omega)⟩⟩
  · refine ⟨by rw [ui_cell (by omega)]; exact c5.1, by rw [ui_cell (by omega)]; exact c5.2.1, fun k hk => ?_⟩
    by_cases e : k = i
    · subst e; rw [ui_same, c5.2.2 k hk]; simp
    · rw [ui_idx e, c5.2.2 k hk]; simp [e]
  · refine ⟨by rw [ui_cell (by omega)]; exact m4.1, by rw [ui_cell (by omega)]; exact m4.2.1, fun k hk => ?_⟩
    by_cases e : k = i
    · subst e; rw [ui_same, m4.2.2 k hk]; simp
    · rw [ui_idx e, m4.2.2 k hk]; simp [e]
theorem ct_refused {d : Nat} (hd : 1 ≤ d) (τ : ax_S) {i : Nat} (hi : i < 5) : ax_Ct shM d mX12_isRefused [ax_r 0, ax_i (nI i)] (fun r u => r = some (ax_i 1) ∧ u = ax_ui τ 16 i (τ.1 16 i + 1)) τ := by
  obtain ⟨d, rfl⟩ : ∃ e, d = e + 1 := ⟨d - 1, by omega⟩
  refine ax_Ct.of (lv := [some (ax_r 0), some (ax_i (nI i))]) (by decide +kernel) (fun ad => Nat.le_of_ble_eq_true rfl) (fun ad => rfl) ?_
  have g : ¬ nI i = -1 := n_m1 i
  refine s_X12_isRefused_0 (by omega) τ _ ?_ ?_ ?_ <;> intros <;> try contradiction
  · exact n_in i 5
  · rw [n_tn i, if_pos g]; exact ⟨rfl, rfl⟩
theorem ct_allowed {d : Nat} (hd : 1 ≤ d) (τ : ax_S) : ax_Ct shM d mX12_isRefused [ax_r 0, ax_i (-1)] (fun r u => r = some (ax_i 0) ∧ u = τ) τ := by
  obtain ⟨d, rfl⟩ : ∃ e, d = e + 1 := ⟨d - 1, by omega⟩
  refine ax_Ct.of (lv := [some (ax_r 0), some (ax_i (-1))]) (by decide +kernel) (fun ad => Nat.le_of_ble_eq_true rfl) (fun ad => rfl) ?_
  have g : (-1 : Int32) = -1 := rfl
  refine s_X12_isRefused_0 (by omega) τ _ ?_ ?_ ?_ <;> intros <;> try contradiction
  rw [if_neg (not_not_intro g)]; exact ⟨rfl, rfl⟩
theorem hpush_ok {n a : Nat} {E D : Nat → Nat} {dry : Nat} {H : Nat → Nat → Nat} (h : hi_ok n a E dry H) (hb : bk_ok n E D dry) (hl : lg_ok D) : hi_ok n (min 40 (a + 1)) E dry (hpush a H D) := by
  obtain ⟨h1, h2⟩ := h
  refine ⟨by omega, fun e he => ?_⟩
  unfold hpush
  by_cases z : a < 40
  · rw [if_pos z]
    by_cases q : e = a
    · rw [if_pos q]; exact ⟨hb, hl⟩
    · rw [if_neg q]; exact h2 e (by omega)
  · rw [if_neg z]
    by_cases q : e = 39
    · rw [if_pos q]; exact ⟨hb, hl⟩
    · rw [if_neg q]; exact h2 (e + 1) (by omega)
/-- an act that logs nothing -/
theorem hi_R.next {σ u : ax_S} {n a T : Nat} {D D' : Nat → Nat} {H : Nat → Nat → Nat} (h : hi_R σ n a T D H) (hD : ∀ j, 87 ≤ j → D' j = D j) (hk : ∀ c j, c = 7 ∨ (c = 8 ∧ j = 2) ∨ c = 36 ∨ c = 37 → u.1 c j = σ.1 c j) : hi_C u n a T D' H := by
  obtain ⟨nx, te, ⟨x1, x2, x3, x4, x5, x6, x8⟩, -, -⟩ := h
  have r36 : u.1 36 = σ.1 36 := funext fun j => hk 36 j (by omega)
  have r37 : u.1 37 = σ.1 37 := funext fun j => hk 37 j (by omega)
  refine ⟨nx, te, by rw [hk 7 1 (by omega)]; exact x1, by rw [hk 7 2 (by omega)]; exact x2, x3, by rw [hk 8 2 (by omega)]; exact x4, ?_, x6, by rw [r36, r37]; exact x8⟩
  rw [r37]
  obtain ⟨l1, l2⟩ := x5
  exact ⟨by rw [hD 87 (by omega)]; exact l1, fun i k hi hk => by rw [hD 87 (by omega)] at hi ⊢; rw [hD _ (by omega)]; exact l2 i k hi hk⟩
theorem good_undo {j : Nat} {σ τ : ax_S} (hj : j ≤ 1000) (h : RR j σ τ) : good j mX11_undo mX12_undo [] σ τ := by
  obtain ⟨n, E, D, dry, lw, ho, L, a, T, H, hb, hlg, -, hh, hT, ⟨b1, b2, b3⟩, ⟨b4, b5⟩, -, -, hnext⟩ := h.belt
  have hn := hb.2.1
  obtain ⟨nx, te, x1, x2, x3, x4, x5, ⟨x6, x7⟩, x8⟩ := b3
  obtain ⟨m1, m2⟩ := b5
  have ha := hh.1
  by_cases g : a = 0
  · subst g
    have g1 : ¬ ¬ σ.1 7 1 = 0 := not_not_intro x1
    have g2 : ¬ ¬ τ.1 0 37 = 0 := not_not_intro m1
    refine good.ask h (-1) ?_ ?_
    · refine ax_Ct.of (lv := [some (ax_r 0)]) (by decide +kernel) (fun ad => Nat.le_of_ble_eq_true rfl) (fun ad => rfl) ?_
      refine s_X11_undo_0 (d := 59) (by omega) σ ?_ ?_ <;> intros <;> try contradiction
      exact ⟨rfl, fo.rfl'⟩
    · refine ax_Ct.of (lv := [some (ax_r 0), none]) (by decide +kernel) (fun ad => Nat.le_of_ble_eq_true rfl) (fun ad => rfl) ?_
      refine s_X12_undo_0 (d := 59) (by omega) τ ?_ ?_ <;> intros <;> try contradiction
      exact ⟨rfl, fo.rfl'⟩
  · obtain ⟨b, rfl⟩ : ∃ b, a = b + 1 := ⟨a - 1, by omega⟩
    obtain ⟨y1, y2, y3⟩ := x8 b (by omega)
    have g1 : ¬ σ.1 7 1 = 0 := by rw [x1]; exact fun z => absurd ((n_eq (b + 1) 0).mp z) (by omega)
    have g2 : ¬ τ.1 0 37 = 0 := by rw [m1]; exact fun z => absurd ((n_eq (b + 1) 0).mp z) (by omega)
    have e1 : (σ.1 7 2 + 40 - 1) - (σ.1 7 2 + 40 - 1) / 40 * 40 = nI ((nx + 39) % 40) := by
      rw [x2, show (40 : Int32) = nI 40 from rfl, n_add, show (1 : Int32) = nI 1 from rfl, n_sub (nx + 40) 1, n_rem (nx + 40 - 1) 40]; rfl
    have e2 : σ.1 7 1 - 1 = nI b := by rw [x1, show (1 : Int32) = nI 1 from rfl, n_sub (b + 1) 1]; rfl
    have e3 : nI ((nx + 39) % 40) * 36 = nI ((nx + 39) % 40 * 36) := n_mul _ 36
    have hbase : hi_b nx (b + 1) b = (nx + 39) % 40 * 36 := by unfold hi_b; omega
    rw [hbase] at y1 y2
    refine ⟨nI b, (fun u => fo SB u σ ∧ CB u n E (H b) dry b (te b) H), (fun w => fo (fun c i => c = 15 ∨ (c = 0 ∧ i = 37)) w τ ∧ MB w n E (H b) dry b H), ?_, ?_, ?_⟩
    · refine ax_Ct.of (lv := [some (ax_r 0)]) (by decide +kernel) (fun ad => Nat.le_of_ble_eq_true rfl) (fun ad => rfl) ?_
      refine s_X11_undo_0 (d := 59) (by omega) σ ?_ ?_ <;> intros <;> try contradiction
      refine ax_Ct.of (lv := [some (ax_r 7), some (ax_r 5), none]) (by decide +kernel) (fun ad => Nat.le_of_ble_eq_true rfl) (fun ad => rfl) ?_
      refine s_X5_goBack_0 (d := 58) (by omega) σ ?_
      rw [e1, e2, e3]
      have f0 : fo (fun c _ => c = 7) (ax_ui (ax_ui σ 7 2 (nI ((nx + 39) % 40))) 7 1 (nI b)) σ := by
        refine fo.ui (fo.ui fo.rfl' ?_) ?_ <;> rfl
      refine (ct_X0_read (by omega) shC_36 (by omega) (by omega) (by omega) (hh.2 b (by omega)).1 (D := D) (b1.to f0.1 (by omega)) (b2.to f0.1 (by omega)) (y1.at hn (fun j _ _ => by rw [ui_cell (by omega), ui_cell (by omega)]))).mono ?_
      rintro r u ⟨rfl, hf, u1, u2⟩
      have i35 : nI ((nx + 39) % 40 * 36) + (35 : Int32) = nI ((nx + 39) % 40 * 36 + 35) := n_add _ 35
      have k36 : ∀ j, u.1 36 j = σ.1 36 j := fun j => by rw [hf.1 36 j (by unfold rd_S; omega), ui_cell (by omega), ui_cell (by omega)]
      have k37 : u.1 37 = σ.1 37 := funext fun j => by rw [hf.1 37 j (by unfold rd_S; omega), ui_cell (by omega), ui_cell (by omega)]
      refine ⟨rfl, s_X5_goBack_43 (by omega) u _ (by rw [i35]; exact n_in _ _) ⟨_, rfl, s_X11_undo_27 (by omega) u _ ?_⟩⟩
      rw [i35, n_tn _, k36, y2]
      have u71 : u.1 7 1 = nI b := by rw [hf.1 7 1 (by unfold rd_S; omega), ui_same]
      have fv : fk (fun c i => c = 8 ∧ i = 2) (ax_ui u 8 2 (nI (te b))) u := (fo.rfl'.ui ⟨rfl, rfl⟩ : fo (fun c i => c = 8 ∧ i = 2) _ u).1
      refine ⟨by rw [u71], ((hf.mono (fun c j h => Or.inl h)).trans (f0.mono (fun c j h => Or.inr (Or.inl h)))).ui (by omega), u1.to fv (by omega), u2.to fv (by omega), (nx + 39) % 40, te, ?_, ?_, by omega, ui_same _ _ _ _, ?_, ⟨fun e he => x6 e (by omega), fun e he => ?_⟩, fun e he => ?_⟩
      · rw [ui_cell (by omega), u71]
      · rw [ui_cell (by omega), hf.1 7 2 (by unfold rd_S; omega), ui_idx (by omega), ui_same]
      · rw [show (ax_ui u 8 2 (nI (te b))).1 37 = σ.1 37 from by rw [← k37]; exact funext fun j => ui_cell (by omega)]; exact y3
      · have := x6 e (by omega); rw [he] at this; exact this
      · have hbe : hi_b ((nx + 39) % 40) b e = hi_b nx (b + 1) e := by unfold hi_b; omega
        rw [hbe, show (ax_ui u 8 2 (nI (te b))).1 37 = σ.1 37 from by rw [← k37]; exact funext fun j => ui_cell (by omega), show (ax_ui u 8 2 (nI (te b))).1 36 = σ.1 36 from funext fun j => by rw [ui_cell (by omega), k36]]
        exact x8 e (by omega)
    · refine ax_Ct.of (lv := [some (ax_r 0), none]) (by decide +kernel) (fun ad => Nat.le_of_ble_eq_true rfl) (fun ad => rfl) ?_
      refine s_X12_undo_0 (d := 59) (by omega) τ ?_ ?_ <;> intros <;> try contradiction
      have e4 : τ.1 0 37 - 1 = nI b := by rw [m1, show (1 : Int32) = nI 1 from rfl, n_sub (b + 1) 1]; rfl
      rw [e4]
      have loop := lp_up (m := 268) (P := fun k => ∀ u, fo (fun c i => c = 15 ∨ (c = 0 ∧ i = 37)) u τ → u.1 0 37 = nI b → (∀ j, j < k → u.1 15 j = nI (H b j)) → ax_W shM (59 + 1) mX12_undo (fun r w => r = some (ax_i (nI b)) ∧ fo (fun c i => c = 15 ∨ (c = 0 ∧ i = 37)) w τ ∧ MB w n E (H b) dry b H) 21 [some (ax_r 0), some (ax_i (nI k))] [] u) ?_ ?_
      · exact loop 0 (by omega) _ (fo.rfl'.ui (by omega)) (ui_same _ _ _ _) (fun j h => absurd h (by omega))
      · intro u hf u1 u2
        have g : (268 : Int32) ≤ nI 268 := by decide
        refine s_X12_undo_21 (by omega) u _ ?_ ?_ ?_ ?_ <;> intros <;> try contradiction
        refine ⟨by rw [u1], hf, ⟨?_, ?_, u2, fun h k hh hk => ?_⟩, u1, fun e k he hk => ?_⟩
        · rw [hf.1 0 23 (by omega)]; exact b4.1
        · rw [hf.1 0 24 (by omega)]; exact b4.2.1
        · rw [hf.1 14 _ (by omega)]; exact b4.2.2.2 h k hh hk
        · rw [hf.1 21 _ (by omega)]; exact m2 e k (by omega) hk
      · intro k hk ih u hf u1 u2
        have g : ¬ (268 : Int32) ≤ nI k := fun z => absurd ((n_le 268 k).mp z) (by omega)
        have e : (268 : Int32) * u.1 0 37 + nI k = nI (268 * b + k) := by rw [u1, show (268 : Int32) = nI 268 from rfl, n_mul, n_add]
        refine s_X12_undo_21 (by omega) u _ ?_ ?_ ?_ ?_ <;> intros <;> try contradiction
        · rw [e]; exact n_in _ _
        · exact n_in _ _
        · rw [e, n_tn _, n_tn _, nI_1]
          refine ih _ (hf.ui (by omega)) (by rw [ui_cell (by omega)]; exact u1) (fun j hj => ?_)
          by_cases q : j = k
          · rw [q, ui_same, hf.1 21 _ (by omega), m2 b k (by omega) hk]
          · rw [ui_idx q]; exact u2 j (by omega)
    · rintro u w ⟨fC, hu⟩ ⟨fM, hw⟩
      have hTb := x7 b rfl
      exact hnext (H b) b (te b) H u w (hh.2 b (by omega)).1 (hh.2 b (by omega)).2 ⟨by omega, fun e he => hh.2 e (by omega)⟩ (by omega) fC.1 ⟨by rw [fC.2], by rw [fC.2]⟩ (fun c i hc => fM.1 c i (fun z => hc (by unfold SM; omega))) hu hw
/-- Chronicle.keep -/
theorem ct_X2_keep {d : Nat} (hd : 3 ≤ d) {σ : ax_S} {T : Nat} {D : Nat → Nat} (hT : σ.1 8 2 = nI T) (hTb : T < 1000000) (hL : lg_C (σ.1 37) T D) :
    ax_Ct shC d mX2_keep [ax_r 8] (fun r u => r = none ∧ fo (fun c i => (c = 8 ∧ i = 3) ∨ c = 38) u σ ∧ u.1 8 3 = nI (D 87) ∧ ∀ i k, i < D 87 → k < 3 → u.1 38 (i * 3 + k) = nI (D (88 + 3 * (D 87 - 1 - i) + k))) σ := by
  obtain ⟨d, rfl⟩ : ∃ e, d = e + 1 := ⟨d - 1, by omega⟩
  have hlen := lg_len hTb
  have h87 : D 87 = min 60 T := hL.1
  refine ax_Ct.of (lv := [some (ax_r 8), none, none]) (by decide +kernel) (fun ad => Nat.le_of_ble_eq_true rfl) (fun ad => rfl) ?_
  refine s_X2_keep_0 (by omega) σ ?_
  rw [hT, hlen, ← h87]
  have loop := lp_up (m := D 87) (P := fun p => ∀ u, fo (fun c i => (c = 8 ∧ i = 3) ∨ c = 38) u σ → u.1 8 3 = nI (D 87) → (∀ i k, i < p → k < 3 → u.1 38 (i * 3 + k) = nI (D (88 + 3 * (D 87 - 1 - i) + k))) → ax_W shC (d + 1) mX2_keep (fun r u => r = none ∧ fo (fun c i => (c = 8 ∧ i = 3) ∨ c = 38) u σ ∧ u.1 8 3 = nI (D 87) ∧ ∀ i k, i < D 87 → k < 3 → u.1 38 (i * 3 + k) = nI (D (88 + 3 * (D 87 - 1 - i) + k))) 10 [some (ax_r 8), some (ax_i (nI p)), none] [] u) ?_ ?_
  · exact loop 0 (by omega) _ (fo.rfl'.ui (by omega)) (ui_same _ _ _ _) (fun i k h => absurd h (by omega))
  · intro u hf u1 u2
    have g : u.1 8 3 ≤ nI (D 87) := by rw [u1]; exact (n_le _ _).mpr (Nat.le_refl _)
    refine s_X2_keep_10 (by omega) u _ ?_ ?_ <;> intros <;> try contradiction
    exact ⟨rfl, hf, u1, u2⟩
  · intro p hp ih u hf u1 u2
    have g : ¬ u.1 8 3 ≤ nI p := by rw [u1]; exact fun z => absurd ((n_le _ _).mp z) (by omega)
    refine s_X2_keep_10 (by omega) u _ ?_ ?_ <;> intros <;> try contradiction
    have inner := lp_up (m := 3) (P := fun q => ∀ u, fo (fun c i => (c = 8 ∧ i = 3) ∨ c = 38) u σ → u.1 8 3 = nI (D 87) → (∀ i k, i < p → k < 3 → u.1 38 (i * 3 + k) = nI (D (88 + 3 * (D 87 - 1 - i) + k))) → (∀ k, k < q → u.1 38 (p * 3 + k) = nI (D (88 + 3 * (D 87 - 1 - p) + k))) → ax_W shC (d + 1) mX2_keep (fun r u => r = none ∧ fo (fun c i => (c = 8 ∧ i = 3) ∨ c = 38) u σ ∧ u.1 8 3 = nI (D 87) ∧ ∀ i k, i < D 87 → k < 3 → u.1 38 (i * 3 + k) = nI (D (88 + 3 * (D 87 - 1 - i) + k))) 20 [some (ax_r 8), some (ax_i (nI p)), some (ax_i (nI q))] [] u) ?_ ?_
    · exact inner 0 (by omega) u hf u1 u2 (fun k h => absurd h (by omega))
    · intro u hf u1 u2 u3
      have g : (3 : Int32) ≤ nI 3 := by decide
      refine s_X2_keep_20 (by omega) u _ _ ?_ ?_ <;> intros <;> try contradiction
      rw [nI_1]
      refine ih u hf u1 (fun i k hi hk => ?_)
      by_cases e : i = p
      · rw [e]; exact u3 k hk
      · exact u2 i k (by omega) hk
    · intro q hq ih2 u hf u1 u2 u3
      have g : ¬ (3 : Int32) ≤ nI q := fun z => absurd ((n_le 3 q).mp z) (by omega)
      refine s_X2_keep_20 (by omega) u _ _ ?_ ?_ <;> intros <;> try contradiction
      have k37 : u.1 37 = σ.1 37 := funext fun j => hf.1 37 j (by omega)
      refine (ct_X2_tells (D := D) (by omega) (by rw [hf.1 8 2 (by omega)]; exact hT) hTb (by rw [k37]; exact hL) (nI p) (nI q)).mono ?_
      rintro r v ⟨rfl, v1, -⟩
      have e : nI p * (3 : Int32) + nI q = nI (p * 3 + q) := by rw [show (3 : Int32) = nI 3 from rfl, n_mul, n_add]
      refine ⟨_, v1 p q hp hq rfl rfl, s_X2_keep_40 (by omega) v _ _ _ _ (by rw [e]; exact n_in _ _) ?_⟩
      rw [e, n_tn _, nI_1]
      refine ih2 _ (hf.ui (by omega)) (by rw [ui_cell (by omega)]; exact u1) (fun i k hi hk => ?_) (fun k hk => ?_)
      · rw [ui_idx (by omega)]; exact u2 i k hi hk
      · by_cases ek : k = q
        · rw [ek, ui_same]
        · rw [ui_idx (by omega)]; exact u3 k (by omega)
/-- Chronicle.giveBack -/
theorem ct_X2_giveBack {d : Nat} (hd : 2 ≤ d) {σ : ax_S} {I : Nat → Nat} (h60 : I 87 ≤ 60) (hL : σ.1 8 3 = nI (I 87)) (hk : ∀ i k, i < I 87 → k < 3 → σ.1 38 (i * 3 + k) = nI (I (88 + 3 * (I 87 - 1 - i) + k))) :
    ax_Ct shC d mX2_giveBack [ax_r 8] (fun r u => r = none ∧ fo (fun c i => (c = 8 ∧ i = 2) ∨ c = 37) u σ ∧ u.1 8 2 = nI (I 87) ∧ lg_C (u.1 37) (I 87) I) σ := by
  obtain ⟨d, rfl⟩ : ∃ e, d = e + 1 := ⟨d - 1, by omega⟩
  refine ax_Ct.of (lv := [some (ax_r 8), none]) (by decide +kernel) (fun ad => Nat.le_of_ble_eq_true rfl) (fun ad => rfl) ?_
  refine s_X2_giveBack_0 (by omega) σ ?_
  -- p given back already: those p oldest
  have loop := lp_up (m := I 87) (P := fun p => ∀ u, fo (fun c i => (c = 8 ∧ i = 2) ∨ c = 37) u σ → u.1 8 2 = nI p → (∀ t k, t < p → k < 3 → u.1 37 (t * 3 + k) = nI (I (88 + 3 * t + k))) → ax_W shC (d + 1) mX2_giveBack (fun r u => r = none ∧ fo (fun c i => (c = 8 ∧ i = 2) ∨ c = 37) u σ ∧ u.1 8 2 = nI (I 87) ∧ lg_C (u.1 37) (I 87) I) 11 [some (ax_r 8), some (ax_i (hoI (I 87 - p)))] [] u) ?_ ?_
  · have e : σ.1 8 3 - 1 = hoI (I 87 - 0) := by
      rw [hL, fa_eq, hoI_toInt (by omega), show (1 : Int32) = nI 1 from rfl, pk_sub_toInt (a := I 87) (b := 1) (by omega) (by omega)]; omega
    rw [e]
    exact loop 0 (by omega) _ (fo.rfl'.ui (by omega)) (ui_same _ _ _ _) (fun t k h => absurd h (by omega))
  · intro u hf u1 u2
    rw [Nat.sub_self]
    have g : hoI 0 < 0 := by decide
    refine s_X2_giveBack_11 (by omega) u _ ?_ ?_ ?_ ?_ ?_ ?_ ?_ ?_ <;> intros <;> try contradiction
    refine ⟨rfl, hf, u1, by omega, fun i k hi hk => ?_⟩
    rw [show (I 87 - 1 - i) % 128 * 3 + k = (I 87 - 1 - i) * 3 + k by omega]
    exact u2 _ k (by omega) hk
  · intro p hp ih u hf u1 u2
    have eh : hoI (I 87 - p) = nI (I 87 - p - 1) := if_neg (by omega)
    have g : ¬ nI (I 87 - p - 1) < 0 := n_nn _
    have i0 : nI (I 87 - p - 1) * (3 : Int32) = nI ((I 87 - p - 1) * 3) := n_mul _ 3
    have i1 : nI ((I 87 - p - 1) * 3) + (1 : Int32) = nI ((I 87 - p - 1) * 3 + 1) := n_add _ 1
    have i2 : nI ((I 87 - p - 1) * 3) + (2 : Int32) = nI ((I 87 - p - 1) * 3 + 2) := n_add _ 2
    have r0 : (u.1 8 2 - u.1 8 2 / 128 * 128) * (3 : Int32) = nI (p * 3) := by
      rw [u1, show (128 : Int32) = nI 128 from rfl, n_rem p 128, show (3 : Int32) = nI 3 from rfl, n_mul, Nat.mod_eq_of_lt (by omega)]
    have r1 : nI (p * 3) + (1 : Int32) = nI (p * 3 + 1) := n_add _ 1
    have r2 : nI (p * 3) + (2 : Int32) = nI (p * 3 + 2) := n_add _ 2
    rw [eh]
    have k38 : ∀ j, u.1 38 j = σ.1 38 j := fun j => hf.1 38 j (by omega)
    refine s_X2_giveBack_11 (by omega) u _ ?_ ?_ ?_ ?_ ?_ ?_ ?_ ?_ <;> intros <;> try contradiction
    · rw [i0]; exact n_in _ _
    · rw [i0, i1]; exact n_in _ _
    · rw [i0, i2]; exact n_in _ _
    · rw [r0]; exact n_in _ _
    · rw [r0, r1]; exact n_in _ _
    · rw [r0, r2]; exact n_in _ _
    · rw [i0, i1, i2, r0, r1, r2, n_tn _, n_tn _, n_tn _, n_tn _, n_tn _, n_tn _, u1, nI_1]
      have ex : nI (I 87 - p - 1) + (-1) = hoI (I 87 - (p + 1)) := by
        rw [fa_eq, hoI_toInt (by omega), fb_addI, nI_toInt (by omega), show Int32.toInt (-1) = -1 by decide]
        · omega
        · rw [nI_toInt (by omega), show Int32.toInt (-1) = -1 by decide]; omega
        · rw [nI_toInt (by omega), show Int32.toInt (-1) = -1 by decide]; omega
      rw [ex]
      have hkk : ∀ k, k < 3 → σ.1 38 ((I 87 - p - 1) * 3 + k) = nI (I (88 + 3 * p + k)) := fun k hk3 => by
        rw [hk (I 87 - p - 1) k (by omega) hk3]; congr 3; omega
      refine ih _ ((((hf.ui (by omega)).ui (by omega)).ui (by omega)).ui (by omega)) (ui_same _ _ _ _) (fun t k ht hk3 => ?_)
      rw [ui_cell (by omega)]
      by_cases e : t = p
      · subst e
        obtain rfl | rfl | rfl : k = 0 ∨ k = 1 ∨ k = 2 := by omega
        · rw [ui_idx (by omega), ui_idx (by omega), Nat.add_zero, ui_same, k38]; exact hkk 0 (by omega)
        · rw [ui_idx (by omega), ui_same, k38]; exact hkk 1 (by omega)
        · rw [ui_same, k38]; exact hkk 2 (by omega)
      · rw [ui_idx (by omega), ui_idx (by omega), ui_idx (by omega)]; exact u2 t k (by omega) hk3
theorem good_image {j : Nat} {σ τ : ax_S} (hj : j ≤ 1000) (h : RR j σ τ) : good j mX11_image mX12_image [] σ τ := by
  have h' := h
  obtain ⟨tl, tp, n, E, D, dry, lw, ho, L, st, ki, rf, nc, no, tc, te, a, T, H, im, I, ⟨o1, o2, o3, o4, o5, o6, o7, o8, o9, o10, o11⟩, ⟨c1, c2, c3, c4, c5, c6, c7, c8, c9⟩, ⟨m1, m2, m3, m4, m5, m6, m7, m8⟩⟩ := h'
  have hn := o2.2.1
  have hmD := m2.2.2.1
  have e9 : σ.1 5 9 = nI n := c2.1
  have e23 : τ.1 0 23 = nI n := m2.1
  by_cases g : n = 0
  · have g1 : ¬ ¬ σ.1 5 9 ≤ 0 := not_not_intro ((hb_C e9 hn).mpr g)
    have g2 : ¬ ¬ τ.1 0 23 = 0 := not_not_intro ((hb_M e23 hn).mpr g)
    refine good.ask h (-1) ?_ ?_
    · refine ax_Ct.of (lv := [some (ax_r 0)]) (by decide +kernel) (fun ad => Nat.le_of_ble_eq_true rfl) (fun ad => rfl) ?_
      refine s_X11_image_0 (d := 59) (by omega) σ ?_ ?_ <;> intros <;> try contradiction
      exact ⟨rfl, fo.rfl'⟩
    · refine ax_Ct.of (lv := [some (ax_r 0), none]) (by decide +kernel) (fun ad => Nat.le_of_ble_eq_true rfl) (fun ad => rfl) ?_
      refine s_X12_image_0 (d := 59) (by omega) τ ?_ ?_ <;> intros <;> try contradiction
      exact ⟨rfl, fo.rfl'⟩
  · have g1 : ¬ σ.1 5 9 ≤ 0 := fun z => g ((hb_C e9 hn).mp z)
    have g2 : ¬ τ.1 0 23 = 0 := fun z => g ((hb_M e23 hn).mp z)
    obtain ⟨nx, tte, hacts, hnx, hnx4, hT, hLG, hrest⟩ := c8
    refine ⟨nI (D 86), (fun u => fo (fun c i => (c = 8 ∧ i = 3) ∨ c = 38 ∨ c = 12 ∨ (c = 0 ∧ i = 13)) u σ ∧ im_C u n 1 D), (fun w => fo (fun c i => c = 30 ∨ (c = 0 ∧ i = 52)) w τ ∧ im_M w 1 D), ?_, ?_, ?_⟩
    · refine ax_Ct.of (lv := [some (ax_r 0)]) (by decide +kernel) (fun ad => Nat.le_of_ble_eq_true rfl) (fun ad => rfl) ?_
      refine s_X11_image_0 (d := 59) (by omega) σ ?_ ?_ <;> intros <;> try contradiction
      refine (ct_X0_write (b := 0) (by omega) shC_12 (by omega) (by omega) (by omega) o2 c2 c3).mono ?_
      rintro r u ⟨rfl, hf, hp⟩
      refine ⟨rfl, s_X11_image_21 (by omega) u ?_⟩
      have k37 : u.1 37 = σ.1 37 := funext fun j => hf.1 37 j (by omega)
      refine (ct_X2_keep (D := D) (T := T) (by omega) (by rw [hf.1 8 2 (by omega)]; exact hT) (by omega) (by rw [k37]; exact hLG)).mono ?_
      rintro r v ⟨rfl, hv, v1, v2⟩
      refine ⟨rfl, s_X11_image_28 (by omega) v ⟨?_, ?_, ui_same _ _ _ _, fun _ => ⟨?_, ?_, fun i k hi hk => ?_⟩⟩⟩
      · rw [hv.1 5 14 (by omega), hf.1 5 14 (by omega), c2.2.2.2.2.1]
      · exact ((hv.mono (fun c i h => by omega)).trans (hf.mono (fun c i h => by omega))).ui (by omega)
      · exact hp.at hn (fun j _ _ => by rw [ui_cell (by omega), hv.1 12 j (by omega)])
      · rw [ui_cell (by omega)]; exact v1
      · rw [ui_cell (by omega)]; exact v2 i k hi hk
    · refine ax_Ct.of (lv := [some (ax_r 0), none]) (by decide +kernel) (fun ad => Nat.le_of_ble_eq_true rfl) (fun ad => rfl) ?_
      refine s_X12_image_0 (d := 59) (by omega) τ ?_ ?_ <;> intros <;> try contradiction
      have loop := lp_up (m := 268) (P := fun k => ∀ u, fo (fun c i => c = 30 ∨ (c = 0 ∧ i = 52)) u τ → (∀ j, j < k → u.1 30 j = nI (D j)) → ax_W shM (59 + 1) mX12_image (fun r w => r = some (ax_i (nI (D 86))) ∧ fo (fun c i => c = 30 ∨ (c = 0 ∧ i = 52)) w τ ∧ im_M w 1 D) 11 [some (ax_r 0), some (ax_i (nI k))] [] u) ?_ ?_
      · exact loop 0 (by omega) τ fo.rfl' (fun j h => absurd h (by omega))
      · intro u hf u2
        have g : (268 : Int32) ≤ nI 268 := by decide
        refine s_X12_image_11 (by omega) u _ ?_ ?_ ?_ <;> intros <;> try contradiction
        exact ⟨by rw [hf.1 15 86 (by omega), hmD 86 (by omega)], hf.ui (by omega), ui_same _ _ _ _, fun _ j hj => by rw [ui_cell (by omega)]; exact u2 j hj⟩
      · intro k hk ih u hf u2
        have g : ¬ (268 : Int32) ≤ nI k := fun z => absurd ((n_le 268 k).mp z) (by omega)
        refine s_X12_image_11 (by omega) u _ ?_ ?_ ?_ <;> intros <;> try contradiction
        · exact n_in _ _
        · rw [n_tn _, nI_1]
          refine ih _ (hf.ui (by omega)) (fun j hj => ?_)
          by_cases q : j = k
          · rw [q, ui_same, hf.1 15 _ (by omega), hmD k hk]
          · rw [ui_idx q]; exact u2 j (by omega)
    · rintro u w ⟨fC', hu⟩ ⟨fM', hw⟩
      have fC := fC'.1
      have fM := fM'.1
      have c8 : hi_C σ n a T D H := ⟨nx, tte, hacts, hnx, hnx4, hT, hLG, hrest⟩
      exact ⟨tl, tp, n, E, D, dry, lw, ho, L, st, ki, rf, nc, no, tc, te, a, T, H, 1, D, ⟨o1, o2, o3, o4, o5, o6, o7, o8, o9, ⟨by omega, fun _ => ⟨o2, o3⟩⟩, by omega⟩, ⟨c1.to fC (by omega), c2.to fC (by omega), c3.to fC (by omega), c4.to fC (by omega), c5.to fC (by omega), c6.to fC (by omega), c7.to fC ⟨by rw [fC'.2], by rw [fC'.2]⟩ (by omega), c8.to fC (by omega), hu⟩, ⟨m1.to fM (by omega), m2.to fM (by omega), m3.to fM (by omega), m4.to fM (by omega), m5.to fM (by omega), m6.to fM (by omega), m7.to fM (by omega), hw⟩⟩
theorem good_back {j : Nat} {σ τ : ax_S} (hj : j ≤ 1000) (h : RR j σ τ) : good j mX11_back mX12_back [] σ τ := by
  have h' := h
  obtain ⟨tl, tp, n, E, D, dry, lw, ho, L, st, ki, rf, nc, no, tc, te, a, T, H, im, I, ⟨o1, o2, o3, o4, o5, o6, o7, o8, o9, o10, o11⟩, ⟨c1, c2, c3, c4, c5, c6, c7, c8, c9⟩, ⟨m1, m2, m3, m4, m5, m6, m7, m8⟩⟩ := h'
  have hn := o2.2.1
  obtain ⟨im1, im2⟩ := o10
  by_cases g : im = 0
  · subst g
    have g1 : ¬ ¬ σ.1 0 13 = 0 := not_not_intro c9.1
    have g2 : ¬ ¬ τ.1 0 52 = 0 := not_not_intro m8.1
    refine good.ask h (-1) ?_ ?_
    · refine ax_Ct.of (lv := [some (ax_r 0)]) (by decide +kernel) (fun ad => Nat.le_of_ble_eq_true rfl) (fun ad => rfl) ?_
      refine s_X11_back_0 (d := 59) (by omega) σ ?_ ?_ <;> intros <;> try contradiction
      exact ⟨rfl, fo.rfl'⟩
    · refine ax_Ct.of (lv := [some (ax_r 0), none]) (by decide +kernel) (fun ad => Nat.le_of_ble_eq_true rfl) (fun ad => rfl) ?_
      refine s_X12_back_0 (d := 59) (by omega) τ ?_ ?_ <;> intros <;> try contradiction
      exact ⟨rfl, fo.rfl'⟩
  · obtain rfl : im = 1 := by omega
    obtain ⟨i1, i2⟩ := im2 rfl
    obtain ⟨p0, p1⟩ := c9
    obtain ⟨p1, p2, p3⟩ := p1 rfl
    obtain ⟨q0, q1⟩ := m8
    have q1 := q1 rfl
    have g1 : ¬ σ.1 0 13 = 0 := by rw [p0]; decide
    have g2 : ¬ τ.1 0 52 = 0 := by rw [q0]; decide
    obtain ⟨nx, tte, hacts, hnx, hnx4, hT, hLG, hrest⟩ := c8
    refine ⟨nI (I 86), (fun u => fo (fun c i => rd_S c i ∨ (c = 8 ∧ i = 2) ∨ c = 37 ∨ c = 7) u σ ∧ bk_C u n E I dry ∧ bk_sm u ∧ hi_C u n 0 (I 87) I H), (fun w => fo (fun c i => c = 15 ∨ (c = 0 ∧ i = 37)) w τ ∧ bk_M w n E I dry ∧ hi_M w 0 H), ?_, ?_, ?_⟩
    · refine ax_Ct.of (lv := [some (ax_r 0)]) (by decide +kernel) (fun ad => Nat.le_of_ble_eq_true rfl) (fun ad => rfl) ?_
      refine s_X11_back_0 (d := 59) (by omega) σ ?_ ?_ <;> intros <;> try contradiction
      refine (ct_X0_read (b := 0) (by omega) shC_12 (by omega) (by omega) (by omega) i1 c2 c3 p1).mono ?_
      rintro r u ⟨rfl, hf, hu1, hu2⟩
      refine ⟨rfl, s_X11_back_21 (by omega) u ?_⟩
      refine (ct_X2_giveBack (I := I) (by omega) i2.1 (by rw [hf.1 8 3 (by unfold rd_S; omega)]; exact p2) (fun i k hi hk => by rw [hf.1 38 _ (by unfold rd_S; omega)]; exact p3 i k hi hk)).mono ?_
      rintro r v ⟨rfl, hv, v1, v2⟩
      have fv : fk (fun c i => (c = 8 ∧ i = 2) ∨ c = 37 ∨ c = 7) (ax_ui v 7 1 0) u := ((hv.mono (fun c i h => by omega) : fo (fun c i => (c = 8 ∧ i = 2) ∨ c = 37 ∨ c = 7) v u).ui (by omega)).1
      refine ⟨rfl, s_X11_back_28 (by omega) v ⟨?_, ?_, hu1.to fv (by omega), hu2.to fv (by omega), nx, tte, ui_same _ _ _ _, ?_, hnx4, ?_, ?_, ⟨fun e he => absurd he (by omega), fun e he => absurd he (by omega)⟩, fun e he => absurd he (by omega)⟩⟩
      · rw [hv.1 5 14 (by omega), hu1.2.2.2.2.1]
      · exact ((hv.mono (fun c i h => by omega)).trans (hf.mono (fun c i h => Or.inl h))).ui (by omega)
      · rw [ui_idx (by omega), hv.1 7 2 (by omega), hf.1 7 2 (by unfold rd_S; omega)]; exact hnx
      · rw [ui_cell (by omega)]; exact v1
      · rw [show (ax_ui v 7 1 0).1 37 = v.1 37 from funext fun j => ui_cell (by omega)]; exact v2
    · refine ax_Ct.of (lv := [some (ax_r 0), none]) (by decide +kernel) (fun ad => Nat.le_of_ble_eq_true rfl) (fun ad => rfl) ?_
      refine s_X12_back_0 (d := 59) (by omega) τ ?_ ?_ <;> intros <;> try contradiction
      have loop := lp_up (m := 268) (P := fun k => ∀ u, fo (fun c i => c = 15 ∨ (c = 0 ∧ i = 37)) u τ → (∀ j, j < k → u.1 15 j = nI (I j)) → ax_W shM (59 + 1) mX12_back (fun r w => r = some (ax_i (nI (I 86))) ∧ fo (fun c i => c = 15 ∨ (c = 0 ∧ i = 37)) w τ ∧ bk_M w n E I dry ∧ hi_M w 0 H) 11 [some (ax_r 0), some (ax_i (nI k))] [] u) ?_ ?_
      · exact loop 0 (by omega) τ fo.rfl' (fun j h => absurd h (by omega))
      · intro u hf u2
        have g : (268 : Int32) ≤ nI 268 := by decide
        refine s_X12_back_11 (by omega) u _ ?_ ?_ ?_ <;> intros <;> try contradiction
        refine ⟨by rw [u2 86 (by omega)], hf.ui (by omega), ⟨?_, ?_, fun j hj => by rw [ui_cell (by omega)]; exact u2 j hj, fun h k hh hk => ?_⟩, ui_same _ _ _ _, fun e k he => absurd he (by omega)⟩
        · rw [ui_idx (by omega), hf.1 0 23 (by omega)]; exact m2.1
        · rw [ui_idx (by omega), hf.1 0 24 (by omega)]; exact m2.2.1
        · rw [ui_cell (by omega), hf.1 14 _ (by omega)]; exact m2.2.2.2 h k hh hk
      · intro k hk ih u hf u2
        have g : ¬ (268 : Int32) ≤ nI k := fun z => absurd ((n_le 268 k).mp z) (by omega)
        refine s_X12_back_11 (by omega) u _ ?_ ?_ ?_ <;> intros <;> try contradiction
        · exact n_in _ _
        · rw [n_tn _, nI_1]
          refine ih _ (hf.ui (by omega)) (fun j hj => ?_)
          by_cases q : j = k
          · rw [q, ui_same, hf.1 30 _ (by omega), q1 k hk]
          · rw [ui_idx q]; exact u2 j (by omega)
    · rintro u w ⟨fC', hu1, hu2, hu3⟩ ⟨fM', hw1, hw2⟩
      have fC : fk (fun c i => rd_S c i ∨ (c = 8 ∧ i = 2) ∨ c = 37 ∨ c = 7) u σ := fC'.1
      have fM : fk (fun c i => c = 15 ∨ (c = 0 ∧ i = 37)) w τ := fM'.1
      have hi87 := i2.1
      refine ⟨tl, tp, n, E, I, dry, lw, ho, L, st, ki, rf, nc, no, tc, te, 0, I 87, H, 1, I, ⟨o1, i1, i2, o4, o5, o6, o7, o8, ⟨by omega, fun e he => absurd he (by omega)⟩, ⟨by omega, fun _ => ⟨i1, i2⟩⟩, by omega⟩, ⟨c1.to fC ?_, hu1, hu2, c4.to fC ?_, c5.to fC ?_, c6.to fC ?_, c7.to fC ⟨by rw [fC'.2], by rw [fC'.2]⟩ ?_, hu3, im_C.to ⟨p0, fun _ => ⟨p1, p2, p3⟩⟩ fC ?_⟩, ⟨m1.to fM ?_, hw1, m3.to fM ?_, m4.to fM ?_, m5.to fM ?_, m6.to fM ?_, hw2, im_M.to ⟨q0, fun _ => q1⟩ fM ?_⟩⟩
      all_goals (intro c i hs; unfold rd_S at *; omega)
