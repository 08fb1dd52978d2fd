/-! ===== TEXT ===== -/
def txC (c i : Nat) : Prop := scC c i ∨ tkF c i ∨ (c = 1 ∧ i = 1) ∨ (c = 7 ∧ i = 1) ∨ (c = 8 ∧ i = 2) ∨ (c = 9 ∧ i = 4) ∨ (c = 0 ∧ (i = 13 ∨ i = 16))
def txM (c i : Nat) : Prop := scM c i ∨ tbF c i ∨ (c = 0 ∧ i = 2)
theorem RR.take {j : Nat} {σ τ : ax_S} (h : RR j σ τ) : bk_sm σ ∧ ∀ B u w, bok B → whB B → fk txC u σ → u.1 1 1 = 0 → bk_C u B.nh B.H (DBn B B.nw) (B.S 1) → bk_sm u → u.1 7 1 = 0 → u.1 8 2 = 0 → u.1 9 4 = 0 → u.1 0 13 = 0 → u.1 0 16 = 0 → u.2 0 17 = 1 → u.2 0 18 = 1 → fk txM w τ → w.1 0 2 = 0 → bk_M w B.nh B.H (DBn B B.nw) (B.S 1) → w.1 0 46 = 0 → w.1 0 50 = 0 → w.1 0 37 = 0 → w.1 0 52 = 0 → RR (j + 1) u w := by
  obtain ⟨tl, tp, n, E, D, dry, lw, ho, L, st, ki, rf, nc, no, tc, te, a, T, H, im, I, ⟨o1, o2, o3, o4, o5, o6, o7, o8, o9, o10, o11⟩, ⟨c1, c2, c3, c4, c5, c6, c7, c8, c9⟩, ⟨m1, m2, m3, m4, m5, m6, m7, m8⟩⟩ := h
  refine ⟨c3, fun B u w hB hW hu u11 ubk usm u71 u82 u94 u13 u16 l17 l18 hw w02 wbk w46 w50 w37 w52 => ?_⟩
  obtain ⟨q1, q2⟩ := DB_ok hB hW
  obtain ⟨D84, D85, D86, D87⟩ := DBn_84 hB hB.2.2.2.2.1
  obtain ⟨nx, te', x1, x2, x3, -⟩ := c8
  refine ⟨0, tp, B.nh, B.H, DBn B B.nw, B.S 1, lw, ho, L, st, ki, rf, 0, no, 0, te, 0, 0, H, 0, I, ⟨⟨by omega, fun i hi => absurd hi (by omega)⟩, q1, q2, o4, o5, o6, ⟨by omega, fun i hi => absurd hi (by omega)⟩, ⟨by omega, fun i hi => absurd hi (by omega)⟩, ⟨by omega, fun i hi => absurd hi (by omega)⟩, ⟨by omega, fun z => absurd z (by omega)⟩, by omega⟩, ⟨⟨u11, fun i hi => absurd hi (by omega)⟩, ubk, usm, c4.to hu ?_, c5.to hu ?_, ⟨u94, fun i hi => absurd hi (by omega)⟩, ⟨u16, l17, l18⟩, ⟨nx, te', u71, ?_, x3, u82, ⟨?_, fun i k hi => ?_⟩, ⟨fun e he => absurd he (by omega), fun e he => absurd he (by omega)⟩, fun e he => absurd he (by omega)⟩, ⟨u13, fun z => absurd z (by omega)⟩⟩, ⟨⟨w02, fun i hi => absurd hi (by omega)⟩, wbk, m3.to hw ?_, m4.to hw ?_, ⟨w46, fun i hi => absurd hi (by omega)⟩, ⟨w50, fun i hi => absurd hi (by omega)⟩, ⟨w37, fun e jj he => absurd he (by omega)⟩, ⟨w52, fun z => absurd z (by omega)⟩⟩⟩
  · intro c i hs; unfold txC scC scr tkF at hs; omega
  · intro c i hs; unfold txC scC scr tkF at hs; omega
  · rw [hu 7 2 (by unfold txC scC scr tkF; omega)]; exact x2
  · rw [D87]; decide
  · rw [D87] at hi; exact absurd hi (by omega)
  · intro c i hs; unfold txM scM scm tbF at hs; omega
  · intro c i hs; unfold txM scM scm tbF at hs; omega
theorem text_belt {j : Nat} {σ τ : ax_S} (h : RR j σ τ) : good j mX11_text mX12_text [ax_i 0] σ τ := by
  obtain ⟨T, hT, hC, hM, -⟩ := h.tape
  obtain ⟨hsm, put⟩ := h.take
  have n1 : ¬ (0 : Int32) = 1 := by decide
  obtain ⟨R, p, c, m⟩ := nt_belt hT
  have cls : ∀ (Q : Option ax_V → ax_S → Prop), (∀ d, 40 ≤ d → ∀ y w, cQF T σ R y w → ∃ b : Int32, y = some (ax_i b) ∧ (b = 0 ∨ b = 1) ∧ ax_W shC (d + 1) mX11_text Q 28 [some (ax_r 0), some (ax_i 0)] [ax_i b] w) → ax_Ct shC 60 mX11_text [ax_r 0, ax_i 0] Q σ := by
    intro Q K
    obtain ⟨d, hd⟩ : ∃ e, 60 = e + 1 + 1 := ⟨58, rfl⟩
    rw [hd]
    refine ax_Ct.of (lv := [some (ax_r 0), some (ax_i 0)]) (by decide +kernel) (fun ad => Nat.le_of_ble_eq_true rfl) (fun ad => rfl) ?_
    refine s_X11_text_0 (by omega) σ _ (fun z => absurd (Or.inl rfl) z) (fun _ _ => ?_) (fun _ z => absurd n1 z) (fun _ z => absurd n1 z)
    refine ax_Ct.of (lv := [some (ax_r 0), some (ax_i 0)]) (by decide +kernel) (fun ad => Nat.le_of_ble_eq_true rfl) (fun ad => rfl) ?_
    refine s_X11_tapeReads_0 (by omega) σ _ (fun z => absurd rfl z) (fun _ => ?_)
    refine (c d σ (by omega) hC).mono (fun y w hw => ?_)
    obtain ⟨b, k1, k2, k3⟩ := K (d + 1) (by omega) y w hw
    exact ⟨b, k1, s_X11_tapeReads_11 (by omega) w _ ⟨b, rfl, k3⟩ k2⟩
  have ref : ∀ (Q : Option ax_V → ax_S → Prop), (∀ d, 40 ≤ d → ∀ y w, mQF T τ R y w → ∃ b : Int32, y = some (ax_i b) ∧ ax_W shM (d + 1) mX12_text Q 8 [some (ax_r 0), some (ax_i 0)] [ax_i b] w) → ax_Ct shM 60 mX12_text [ax_r 0, ax_i 0] Q τ := by
    intro Q K
    obtain ⟨d, hd⟩ : ∃ e, 60 = e + 1 := ⟨59, rfl⟩
    rw [hd]
    refine ax_Ct.of (lv := [some (ax_r 0), some (ax_i 0)]) (by decide +kernel) (fun ad => Nat.le_of_ble_eq_true rfl) (fun ad => rfl) ?_
    refine s_X12_text_0 (by omega) τ _ (fun z => absurd rfl z) (fun z => absurd rfl z) (fun z => absurd rfl z) (fun _ => ?_)
    exact (m d τ (by omega) hM).mono (fun y w hw => K d (by omega) y w hw)
  cases R with
  | inl n =>
    have hTl := hT.1
    refine good.ask h (-1) (cls _ (fun d hd y w hw => ⟨0, hw.2.1, Or.inl rfl, s_X11_text_28 (by omega) w _ _ (fun z => absurd rfl z) (fun z => absurd rfl z) (fun _ => ⟨rfl, be_sc hw.1⟩)⟩)) (ref _ (fun d hd y w hw => ⟨_, hw.2, s_X12_text_8 (by omega) w _ _ (fun _ _ => ⟨rfl, bm_sc hw.1⟩) (fun _ z => absurd n1 z) (fun _ z => absurd n1 z) (fun z => absurd (n_m1 (T.length - n)) z)⟩))
  | inr B =>
    obtain ⟨hB, hW⟩ := p
    refine ⟨nI B.nh, fun u => fk txC u σ ∧ u.1 1 1 = 0 ∧ bk_C u B.nh B.H (DBn B B.nw) (B.S 1) ∧ bk_sm u ∧ u.1 7 1 = 0 ∧ u.1 8 2 = 0 ∧ u.1 9 4 = 0 ∧ u.1 0 13 = 0 ∧ u.1 0 16 = 0 ∧ u.2 0 17 = 1 ∧ u.2 0 18 = 1, fun w => fk txM w τ ∧ w.1 0 2 = 0 ∧ bk_M w B.nh B.H (DBn B B.nw) (B.S 1) ∧ w.1 0 46 = 0 ∧ w.1 0 50 = 0 ∧ w.1 0 37 = 0 ∧ w.1 0 52 = 0, cls _ (fun d hd y w hw => ⟨1, hw.2.1, Or.inr rfl, ?_⟩), ref _ (fun d hd y w hw => ⟨_, hw.2.1, ?_⟩), fun u w hu hw => put B u w hB hW hu.1 hu.2.1 hu.2.2.1 hu.2.2.2.1 hu.2.2.2.2.1 hu.2.2.2.2.2.1 hu.2.2.2.2.2.2.1 hu.2.2.2.2.2.2.2.1 hu.2.2.2.2.2.2.2.2.1 hu.2.2.2.2.2.2.2.2.2.1 hu.2.2.2.2.2.2.2.2.2.2 hw.1 hw.2.1 hw.2.2.1 hw.2.2.2.1 hw.2.2.2.2.1 hw.2.2.2.2.2.1 hw.2.2.2.2.2.2⟩
    · refine s_X11_text_28 (by omega) w _ _ (fun _ _ => ?_) (fun _ z => absurd n1 z) (fun z => absurd (show ¬ (1 : Int32) = 0 by decide) z)
      obtain ⟨f1, -, hb⟩ := hw
      have f0 : fo (fun c i => c = 1 ∧ i = 1) (ax_ui w 1 1 0) w := fo.rfl'.ui ⟨rfl, rfl⟩
      have hb' : cBs (ax_ui w 1 1 0) B := by
        obtain ⟨b1, b2, b3, b4, b5, b6⟩ := hb
        exact ⟨by rw [f0.1 2 4 (by omega)]; exact b1, by rw [f0.1 2 5 (by omega)]; exact b2, by rw [f0.1 2 6 (by omega)]; exact b3, fun i hi => by rw [f0.1 15 i (by omega)]; exact b4 i hi, fun i hi => by rw [f0.1 16 i (by omega)]; exact b5 i hi, fun i hi => by rw [f0.1 17 i (by omega)]; exact b6 i hi⟩
      have sm' : bk_sm (ax_ui w 1 1 0) := (hsm.to f1.1 (fun c i z => by unfold beC at z; omega)).to f0.1 (by omega)
      refine (ct_X0_take (by omega) hB hW hb' sm').mono ?_
      rintro y v ⟨rfl, v1, v2, v3⟩
      refine ⟨rfl, s_X11_text_69 (by omega) v ⟨by rw [v2.1], ?_⟩⟩
      have key : ∀ s : ax_S, s = ax_ui (ax_ui (ax_ui (ax_ui (ax_ui v 7 1 0) 8 2 0) 9 4 0) 0 13 0) 0 16 0 → fo (fun c i => (c = 7 ∧ i = 1) ∨ (c = 8 ∧ i = 2) ∨ (c = 9 ∧ i = 4) ∨ (c = 0 ∧ (i = 13 ∨ i = 16))) s v ∧ s.1 7 1 = 0 ∧ s.1 8 2 = 0 ∧ s.1 9 4 = 0 ∧ s.1 0 13 = 0 ∧ s.1 0 16 = 0 := by
        rintro s rfl
        refine ⟨((((fo.rfl'.ui (by omega)).ui (by omega)).ui (by omega)).ui (by omega)).ui (by omega), ?_, ?_, ?_, ?_, ui_same _ _ _ _⟩
        · rw [ui_cell (by omega), ui_cell (by omega), ui_cell (by omega), ui_cell (by omega), ui_same]
        · rw [ui_cell (by omega), ui_cell (by omega), ui_cell (by omega), ui_same]
        · rw [ui_cell (by omega), ui_cell (by omega), ui_same]
        · rw [ui_idx (by omega), ui_same]
      generalize hs : ax_ui (ax_ui (ax_ui (ax_ui (ax_ui v 7 1 0) 8 2 0) 9 4 0) 0 13 0) 0 16 0 = s
      obtain ⟨g0, g1, g2, g3, g4, g5⟩ := key s hs.symm
      have e1 : (ax_ul (ax_ul s 0 17 1) 0 18 1).1 = s.1 := rfl
      have fv : fk txC s σ := ((g0.mono (fun c i z => Or.inr (Or.inr (Or.inr z)))).trans ((v1.mono (fun c i z => Or.inr (Or.inl z))).trans ((f0.mono (fun c i z => Or.inr (Or.inr (Or.inl z)))).trans ((be_sc f1).mono (fun c i z => Or.inl z))))).1
      have hbk : bk_C s B.nh B.H (DBn B B.nw) (B.S 1) := v2.to g0.1 (by omega)
      have hbs : bk_sm s := v3.to g0.1 (by omega)
      have s11 : s.1 1 1 = 0 := by rw [g0.1 1 1 (by omega), v1.1 1 1 (by unfold tkF; omega), ui_same]
      have hk2 : fk (fun _ _ => False) (ax_ul (ax_ul s 0 17 1) 0 18 1) s := fun _ _ _ => rfl
      refine ⟨fun c i hn => fv c i hn, s11, hbk.to hk2 (fun _ _ z => z.elim), hbs.to hk2 (fun _ _ z => z.elim), g1, g2, g3, g4, g5, rfl, rfl⟩
    · refine s_X12_text_8 (by omega) w _ _ (fun z => absurd rfl z) (fun z => absurd rfl z) (fun z => absurd rfl z) (fun _ => ?_)
      obtain ⟨f1, -, hb⟩ := hw
      have f0 : fo (fun c i => c = 0 ∧ i = 2) (ax_ui w 0 2 0) w := fo.rfl'.ui ⟨rfl, rfl⟩
      have hb' : mBs (ax_ui w 0 2 0) B := by
        obtain ⟨b2, b3, b4, b5, b6⟩ := hb
        exact ⟨by rw [f0.1 0 20 (by omega)]; exact b2, by rw [f0.1 0 21 (by omega)]; exact b3, fun i hi => by rw [f0.1 11 i (by omega)]; exact b4 i hi, fun i hi => by rw [f0.1 12 i (by omega)]; exact b5 i hi, fun i hi => by rw [f0.1 13 i (by omega)]; exact b6 i hi⟩
      refine (ct_X12_takeBelt (by omega) hB hW hb').mono ?_
      rintro y v ⟨rfl, v1, v2, v3, v4, v5, v6⟩
      refine ⟨_, rfl, s_X12_text_21 (by omega) v _ ⟨rfl, ?_, ?_, v2, v3, v4, v5, v6⟩⟩
      · exact ((v1.mono (fun c i z => Or.inr (Or.inl z))).trans ((f0.mono (fun c i z => Or.inr (Or.inr z))).trans ((bm_sc f1).mono (fun c i z => Or.inl z)))).1
      · rw [v1.1 0 2 (by unfold tbF; omega), ui_same]
theorem good_text {j : Nat} {σ τ : ax_S} (h : RR j σ τ) (a : Int32) : good j mX11_text mX12_text [ax_i a] σ τ := by
  by_cases e0 : a = 0
  · rw [e0]; exact text_belt h
  by_cases e1 : a = 1
  · rw [e1]; exact text_law h
  refine good.ask h (-1) ?_ ?_
  · obtain ⟨d, hd⟩ : ∃ e, 60 = e + 1 := ⟨59, rfl⟩
    rw [hd]
    refine ax_Ct.of (lv := [some (ax_r 0), some (ax_i a)]) (by decide +kernel) (fun ad => Nat.le_of_ble_eq_true rfl) (fun ad => rfl) ?_
    have g : ¬ ((a = 0) ∨ (¬ (¬ a = 1))) := fun q => q.elim e0 (fun t => t e1)
    exact s_X11_text_0 (by omega) σ _ (fun _ => ⟨rfl, fo.rfl'⟩) (fun z => absurd z g) (fun z => absurd z g) (fun z => absurd z g)
  · obtain ⟨d, hd⟩ : ∃ e, 60 = e + 1 := ⟨59, rfl⟩
    rw [hd]
    refine ax_Ct.of (lv := [some (ax_r 0), some (ax_i a)]) (by decide +kernel) (fun ad => Nat.le_of_ble_eq_true rfl) (fun ad => rfl) ?_
    exact s_X12_text_0 (by omega) τ _ (fun _ _ => ⟨rfl, fo.rfl'⟩) (fun _ z => absurd e1 z) (fun _ z => absurd e1 z) (fun z => absurd e0 z)
