/-! ===== FAULT and TEXT of a law ===== -/
def lmH (n0 c i : Nat) : Prop := lmG n0 c i ∨ (c = 0 ∧ i = 14)
def cR3 (T : List Nat) (u : ax_S) (R : rL) (y : Option ax_V) (w : ax_S) : Prop := fo lrS w u ∧ match R with
  | Sum.inl n => y = some (ax_i 0) ∧ w.1 1 2 = nI (T.length - n)
  | Sum.inr ls => y = some (ax_i 1) ∧ w.1 3 2 = nI (lw_enc 0 ls).length ∧ ∀ i x, (lw_enc 0 ls)[i]? = some x → w.1 18 i = nI x
def mR3 (T : List Nat) (n0 : Nat) (u : ax_S) (R : rL) (y : Option ax_V) (w : ax_S) : Prop := fo (lmH n0) w u ∧ match R with
  | Sum.inl n => y = some (ax_i (nI (T.length - n)))
  | Sum.inr ls => y = some (ax_i (-1)) ∧ w.1 5 n0 = nI ls.length ∧ lmC w n0 0 0 ls
theorem nt_reads {T : List Nat} (hT : tkOk T) {n0 : Nat} (hn0 : n0 ≤ 4) : ∃ R : rL, PR3 T R ∧
    (∀ d u, 43 ≤ d → tkC u T → ax_Ct shC d mX6_reads [ax_r 3] (cR3 T u R) u) ∧
    (∀ d u, 43 ≤ d → tkM u T → ax_Ct shM d mX12_readLaw [ax_r 0, ax_i (nI n0)] (mR3 T n0 u R) u) := by
  have hTl := hT.1
  obtain ⟨R, p, c, m⟩ := lp_reads hT hn0 T.length T (Nat.le_refl _) (fun c hc => (hT.2 c hc).2)
  refine ⟨R, p, fun d u hd hu => ?_, fun d u hd hu => ?_⟩
  · obtain ⟨d, rfl⟩ : ∃ e, d = e + 1 := ⟨d - 1, by omega⟩
    refine ax_Ct.of (lv := [some (ax_r 3), none]) (by decide +kernel) (fun ad => Nat.le_of_ble_eq_true rfl) (fun ad => rfl) ?_
    refine s_X6_reads_0 (by omega) u ?_
    have f : fo (fun c i => (c = 1 ∧ i = 2) ∨ (c = 3 ∧ i = 2)) (ax_ui (ax_ui u 1 2 0) 3 2 0) u := (fo.rfl'.ui (Or.inl ⟨rfl, rfl⟩)).ui (Or.inr ⟨rfl, rfl⟩)
    have h0 : cS T (ax_ui (ax_ui u 1 2 0) 3 2 0) T (lw_enc 0 []) := by
      refine ⟨⟨⟨by rw [f.1 1 1 (by omega)]; exact hu.1, fun i b hb => by rw [f.1 14 i (by omega)]; exact hu.2 i b hb⟩, [], rfl, ?_⟩, ui_same _ _ _ _, fun i x hx => ?_⟩
      · rw [ui_cell (by omega), ui_same]; rfl
      · rw [lw_enc] at hx; exact absurd hx (by simp)
    refine (c d _ [] 0 u (by omega) h0 (f.mono (fun c i z => by unfold lrS nuS; omega)) (by rw [lw_enc, List.length_nil]; omega) (by omega)).mono (fun y w hw => ⟨hw.1, ?_⟩)
    cases R with
    | inl n => exact hw.2
    | inr ls => exact ⟨hw.2.1, hw.2.2.2.1, hw.2.2.2.2⟩
  · obtain ⟨d, rfl⟩ : ∃ e, d = e + 1 := ⟨d - 1, by omega⟩
    refine ax_Ct.of (lv := [some (ax_r 0), some (ax_i (nI n0))]) (by decide +kernel) (fun ad => Nat.le_of_ble_eq_true rfl) (fun ad => rfl) ?_
    refine s_X12_readLaw_0 (by omega) u _ (n_in _ _) ?_
    rw [n_tn n0]
    have f : fo (fun c i => (c = 0 ∧ (i = 14 ∨ i = 3 ∨ i = 4 ∨ i = 5)) ∨ (c = 4 ∧ i = n0) ∨ (c = 5 ∧ i = n0)) (ax_ui (ax_ui (ax_ui (ax_ui (ax_ui (ax_ui u 0 14 (nI n0)) 0 3 0) 0 4 (-1)) 0 5 0) 4 n0 0) 5 n0 0) u := (((((fo.rfl'.ui (by omega)).ui (by omega)).ui (by omega)).ui (by omega)).ui (by omega)).ui (by omega)
    have hW : mW T n0 (ax_ui (ax_ui (ax_ui (ax_ui (ax_ui (ax_ui u 0 14 (nI n0)) 0 3 0) 0 4 (-1)) 0 5 0) 4 n0 0) 5 n0 0) T [] := by
      refine ⟨⟨⟨⟨by rw [f.1 0 2 (by omega)]; exact hu.1, fun i b hb => by rw [f.1 1 i (by omega)]; exact hu.2 i b hb⟩, [], rfl, ?_⟩, ?_, ?_, ?_, ?_, fun i x hx => ?_⟩, ui_same _ _ _ _, trivial⟩
      · rw [ui_cell (by omega), ui_cell (by omega), ui_idx (by omega), ui_idx (by omega), ui_same]; rfl
      · rw [ui_cell (by omega), ui_cell (by omega), ui_idx (by omega), ui_same]
      · rw [ui_cell (by omega), ui_cell (by omega), ui_same]; rfl
      · rw [ui_cell (by omega), ui_cell (by omega), ui_idx (by omega), ui_idx (by omega), ui_idx (by omega), ui_same]
      · rw [ui_cell (by omega), ui_same]; rfl
      · rw [fla] at hx; exact absurd hx (by simp)
    have G := m d _ [] (ax_ui (ax_ui (ax_ui (ax_ui (ax_ui (ax_ui u 0 14 (nI n0)) 0 3 0) 0 4 (-1)) 0 5 0) 4 n0 0) 5 n0 0) (by omega) hW fo.rfl' (by rw [fla, List.length_nil]; omega) (by rw [List.length_nil]; omega)
    refine G.mono ?_
    rintro y w ⟨rfl, hw⟩
    refine ⟨rfl, hw.mono (fun y w hw => ⟨(hw.1.mono (fun c i z => Or.inl z)).trans (f.mono (fun c i z => by show lmG n0 c i ∨ (c = 0 ∧ i = 14); unfold lmG lmF; omega)), ?_⟩)⟩
    cases R with
    | inl n => exact hw.2
    | inr ls => exact ⟨hw.2.1, hw.2.2.2.1, lmC_of hw.2.2.1.2.2.2 (pre := []) rfl rfl hw.2.2.2.2⟩
theorem lmC.lo {τ u : ax_S} {i : Nat} (hk2 : ∀ c j, (c = 2 ∨ c = 3) → j < 520 * i + 520 → u.1 c j = τ.1 c j) (hk6 : ∀ c j, (c = 6 ∨ c = 7 ∨ c = 8) → j < 140 * i + 140 → u.1 c j = τ.1 c j) : ∀ {law : List tCl} {q o : Nat}, q + law.length ≤ 140 → o + lm_n law ≤ 520 → lmC τ i q o law → lmC u i q o law
  | [], q, o, _, _, _ => trivial
  | c :: t, q, o, h1, h2, h => by
    rw [List.length_cons] at h1
    rw [lm_n] at h2
    obtain ⟨a1, a2, a3, a4, a5, a6⟩ := h
    refine ⟨by rw [hk6 6 _ (by omega) (by omega)]; exact a1, by rw [hk6 7 _ (by omega) (by omega)]; exact a2, by rw [hk6 8 _ (by omega) (by omega)]; exact a3, fun m x hx => ?_, fun m x hx => ?_, lmC.lo hk2 hk6 (by omega) (by omega) a6⟩
    · have hm := (List.getElem?_eq_some_iff.mp hx).1
      rw [hk2 2 _ (by omega) (by omega), hk2 3 _ (by omega) (by omega)]; exact a4 m x hx
    · have hm := (List.getElem?_eq_some_iff.mp hx).1
      rw [hk2 2 _ (by omega) (by omega), hk2 3 _ (by omega) (by omega)]; exact a5 m x hx
theorem lwM.lo {τ w : ax_S} {lw ho n0 : Nat} {L : Nat → List tCl} (ho' : lwok lw ho L) (h : lwM τ lw ho L) (hl : lw ≤ n0) (hf : fk (fun c i => lmH n0 c i ∨ (c = 0 ∧ (i = 2 ∨ i = 13))) w τ) : w.1 0 27 = hoI ho ∧ ∀ i, i < lw → w.1 5 i = nI (L i).length ∧ lmC w i 0 0 (L i) := by
  refine ⟨by rw [hf 0 27 (by unfold lmH lmG lmF; omega)]; exact h.2.1, fun i hi => ⟨by rw [hf 5 i (by unfold lmH lmG lmF; omega)]; exact (h.2.2 i hi).1, ?_⟩⟩
  have ho2 := ho'.2.2 i hi
  exact (h.2.2 i hi).2.lo (fun c j hc hj => hf c j (by unfold lmH lmG lmF; omega)) (fun c j hc hj => hf c j (by unfold lmH lmG lmF; omega)) (by omega) (by omega)
theorem its_lt : ∀ {its : List (Nat × Nat)} {k k' : List Bool}, le_ok 60 its k k' → ∀ x ∈ its, x.1 + 16 * x.2 < 1000000
  | [], _, _, _, x, hx => absurd hx List.not_mem_nil
  | y :: t, k, k', h, x, hx => by
    rcases List.mem_cons.mp hx with e | e
    · rw [e]
      rcases h with h | h | h | h | h | h <;> omega
    · rcases h with h | h | h | h | h | h
      · exact its_lt h.2.2.2 x e
      · exact its_lt h.2.2.2 x e
      · obtain ⟨-, -, m, -, h⟩ := h; exact its_lt h x e
      · obtain ⟨-, -, -, m, -, h⟩ := h; exact its_lt h x e
      · obtain ⟨-, -, -, m, -, h⟩ := h; exact its_lt h x e
      · obtain ⟨-, -, -, m, -, h⟩ := h; exact its_lt h x e
theorem enc_lt : ∀ (law : List tCl) (o : Nat), lw_wf law → o + (lw_enc o law).length ≤ 240 → ∀ w ∈ lw_enc o law, w < 1000000
  | [], o, _, _, w, hw => absurd hw List.not_mem_nil
  | c :: t, o, h, hl, w, hw => by
    have h1 := h c List.mem_cons_self
    rw [lw_enc, List.length_append] at hl
    rw [lw_enc, List.mem_append] at hw
    have hcl := cl_len o c
    rcases hw with hw | hw
    · unfold lw_cl at hw
      rw [List.mem_append, List.mem_append] at hw
      rcases hw with hw | hw | hw
      · by_cases e : c.1 = []
        · rw [if_pos e] at hw; exact absurd hw List.not_mem_nil
        · rw [if_neg e, List.mem_append] at hw
          rw [if_neg e] at hcl
          rcases hw with hw | hw
          · obtain ⟨x, hx, rfl⟩ := List.mem_map.mp hw
            rcases h1.1 with z | z
            · exact absurd z e
            · exact its_lt z x hx
          · rw [List.mem_singleton.mp hw]; omega
      · obtain ⟨x, hx, rfl⟩ := List.mem_map.mp hw
        exact its_lt h1.2 x hx
      · rw [List.mem_singleton.mp hw]; omega
    · exact enc_lt t _ (fun c hc => h c (List.mem_cons_of_mem _ hc)) (by omega) w hw
def tlS (lw c i : Nat) : Prop := scC c i ∨ (c = 1 ∧ i = 1) ∨ (c = 4 ∧ i = 4) ∨ (c = 20 ∧ i = lw) ∨ (c = 19 ∧ 240 * lw ≤ i)
theorem RR.laws {j : Nat} {σ τ : ax_S} (h : RR j σ τ) : ∃ lw, lw ≤ 4 ∧ σ.1 4 4 = nI lw ∧ τ.1 0 13 = nI lw ∧
    (∀ u w n0, lw ≤ n0 → fo scC u σ → fo (lmH n0) w τ → RR (j + 1) u w) ∧
    (∀ u w ls, lw < 4 → lw_wf ls → ls.length ≤ 100 → lm_n ls ≤ 240 → fo (tlS lw) u σ → u.1 1 1 = 0 → u.1 4 4 = nI (lw + 1) → lcC u lw (lw_enc 0 ls) → fo (fun c i => lmH lw c i ∨ (c = 0 ∧ (i = 2 ∨ i = 13))) w τ → w.1 0 2 = 0 → w.1 0 13 = nI (lw + 1) → w.1 5 lw = nI ls.length → lmC w lw 0 0 ls → RR (j + 1) u w) := by
  obtain ⟨tl, tp, n, E, D, dry, lw, ho, L, st, ki, rf, nc, no, tc, te, a, T, H, im, I, ⟨o1, o2, o3, o4, o5, o6, o7, o8, o9, o10, o11⟩, hc, ⟨m1, m2, m3, m4, m5, m6, m7, m8⟩⟩ := h
  refine ⟨lw, o4.1, hc.2.2.2.1.1, m3.1, ?_, ?_⟩
  · intro u w n0 hl hu hw
    have hL := m3.lo o4 hl (hw.mono (fun c i z => Or.inl z)).1
    refine ⟨tl, tp, n, E, D, dry, lw, ho, L, st, ki, rf, nc, no, tc, te, a, T, H, im, I, ⟨o1, o2, o3, o4, o5, o6, o7, o8, o9, o10, by omega⟩, CR_scC hu hc, ⟨m1.to hw.1 ?_, m2.to hw.1 ?_, ⟨by rw [hw.1 0 13 (by unfold lmH lmG lmF; omega)]; exact m3.1, hL.1, hL.2⟩, m4.to hw.1 ?_, m5.to hw.1 ?_, m6.to hw.1 ?_, m7.to hw.1 ?_, m8.to hw.1 ?_⟩⟩
    all_goals (intro c i hs; unfold lmH lmG lmF at hs; omega)
  · intro u w ls hl4 g1 g2 g3 hu u11 u44 ulc hw w02 w13 w5 wlm
    obtain ⟨c1, c2, c3, c4, c5, c6, c7, c8, c9⟩ := hc
    have hL := m3.lo o4 (Nat.le_refl _) hw.1
    refine ⟨0, tp, n, E, D, dry, lw + 1, ho, fun i => if i = lw then ls else L i, st, ki, rf, nc, no, tc, te, a, T, H, im, I, ⟨⟨by omega, fun i hi => absurd hi (by omega)⟩, o2, o3, ⟨by omega, by have := o4.2.1; omega, fun i hi => ?_⟩, o5, o6, o7, o8, o9, o10, by omega⟩, ⟨⟨u11, fun i hi => absurd hi (by omega)⟩, c2.to hu.1 ?_, c3.to hu.1 ?_, ⟨u44, by rw [hu.1 4 5 (by unfold tlS scC scr; omega)]; exact c4.2.1, fun i hi => ?_⟩, c5.to hu.1 ?_, c6.to hu.1 ?_, c7.to hu.1 ⟨by rw [hu.2], by rw [hu.2]⟩ ?_, c8.to hu.1 ?_, c9.to hu.1 ?_⟩, ⟨⟨w02, fun i hi => absurd hi (by omega)⟩, m2.to hw.1 ?_, ⟨w13, hL.1, fun i hi => ?_⟩, m4.to hw.1 ?_, m5.to hw.1 ?_, m6.to hw.1 ?_, m7.to hw.1 ?_, m8.to hw.1 ?_⟩⟩
    any_goals (intro c i hs; first | (unfold tlS scC scr at hs; omega) | (unfold lmH lmG lmF at hs; omega))
    · by_cases e : i = lw
      · show lw_wf (if i = lw then ls else L i) ∧ (if i = lw then ls else L i).length ≤ 100 ∧ lm_n (if i = lw then ls else L i) ≤ 240
        rw [if_pos e]; exact ⟨g1, g2, g3⟩
      · show lw_wf (if i = lw then ls else L i) ∧ (if i = lw then ls else L i).length ≤ 100 ∧ lm_n (if i = lw then ls else L i) ≤ 240
        rw [if_neg e]; exact o4.2.2 i (by omega)
    · by_cases e : i = lw
      · show lcC u i (lw_enc 0 (if i = lw then ls else L i))
        rw [if_pos e, e]; exact ulc
      · show lcC u i (lw_enc 0 (if i = lw then ls else L i))
        rw [if_neg e]
        obtain ⟨k1, k2, k3⟩ := c4.2.2 i (by omega)
        refine ⟨by rw [hu.1 20 i (by unfold tlS scC scr; omega)]; exact k1, k2, fun q x hx => ?_⟩
        have hq := (List.getElem?_eq_some_iff.mp hx).1
        rw [hu.1 19 _ (by unfold tlS scC scr; omega)]; exact k3 q x hx
    · by_cases e : i = lw
      · show w.1 5 i = nI (if i = lw then ls else L i).length ∧ lmC w i 0 0 (if i = lw then ls else L i)
        rw [if_pos e, e]; exact ⟨w5, wlm⟩
      · show w.1 5 i = nI (if i = lw then ls else L i).length ∧ lmC w i 0 0 (if i = lw then ls else L i)
        rw [if_neg e]; exact hL.2 i (by omega)
theorem lr_sc {w u : ax_S} (h : fo lrS w u) : fo scC w u := h.mono (fun c i z => by unfold lrS nuS at z; unfold scC scr; omega)
theorem lr_sc_c {c i : Nat} (z : lrS c i) : scC c i := by unfold lrS nuS at z; unfold scC scr; omega
theorem fault_law {j : Nat} {σ τ : ax_S} (h : RR j σ τ) : good j mX11_fault mX12_fault [ax_i 1] σ τ := by
  obtain ⟨T, hT, hC, hM, -⟩ := h.tape
  obtain ⟨lw, hlw, -, -, up, -⟩ := h.laws
  obtain ⟨R, p, c, m⟩ := nt_reads hT (n0 := 4) (by omega)
  have cls : ∀ (v : Int32), (∀ y w, cR3 T σ R y w → ∃ b : Int32, y = some (ax_i b) ∧ (b = 0 ∨ b = 1) ∧ (if b = 0 then w.1 1 2 else (-1 : Int32)) = v) → ax_Ct shC 60 mX11_fault [ax_r 0, ax_i 1] (fun r u => r = some (ax_i v) ∧ fo scC u σ) σ := by
    intro v K
    obtain ⟨d, hd⟩ : ∃ e, 60 = e + 1 + 1 := ⟨58, rfl⟩
    rw [hd]
    refine ax_Ct.of (lv := [some (ax_r 0), some (ax_i 1)]) (by decide +kernel) (fun ad => Nat.le_of_ble_eq_true rfl) (fun ad => rfl) ?_
    refine s_X11_fault_0 (by omega) σ _ (fun _ => ?_) (fun z => absurd (Or.inr (fun q => q rfl)) z)
    refine ax_Ct.of (lv := [some (ax_r 0), some (ax_i 1)]) (by decide +kernel) (fun ad => Nat.le_of_ble_eq_true rfl) (fun ad => rfl) ?_
    refine s_X11_tapeReads_0 (by omega) σ _ (fun _ => ?_) (fun z => absurd (show ¬ (1 : Int32) = 0 by decide) z)
    refine (c d σ (by omega) hC).mono (fun y w hw => ?_)
    obtain ⟨b, k1, k2, k3⟩ := K y w hw
    refine ⟨b, k1, s_X11_tapeReads_21 (by omega) w _ ⟨b, rfl, s_X11_fault_15 (by omega) w _ ⟨by rw [k3], lr_sc hw.1⟩⟩ k2⟩
  have ref : ∀ (v : Int32), (∀ y w, mR3 T 4 τ R y w → y = some (ax_i v)) → ax_Ct shM 60 mX12_fault [ax_r 0, ax_i 1] (fun r u => r = some (ax_i v) ∧ fo (lmH 4) u τ) τ := by
    intro v K
    obtain ⟨d, hd⟩ : ∃ e, 60 = e + 1 := ⟨59, rfl⟩
    rw [hd]
    refine ax_Ct.of (lv := [some (ax_r 0), some (ax_i 1)]) (by decide +kernel) (fun ad => Nat.le_of_ble_eq_true rfl) (fun ad => rfl) ?_
    refine s_X12_fault_0 (by omega) τ _ (fun _ z => absurd rfl z) (fun _ _ => ?_) (fun z => absurd (show ¬ (1 : Int32) = 0 by decide) z)
    refine (m d τ (by omega) hM).mono (fun y w hw => ?_)
    exact ⟨v, K y w hw, s_X12_fault_21 (by omega) w _ ⟨rfl, hw.1⟩⟩
  cases R with
  | inl n =>
    refine ⟨nI (T.length - n), _, _, cls _ (fun y w hw => ⟨0, hw.2.1, Or.inl rfl, ?_⟩), ref _ (fun y w hw => hw.2), fun u w hu hw => up u w 4 hlw hu hw⟩
    rw [if_pos rfl, hw.2.2]
  | inr ls =>
    refine ⟨-1, _, _, cls _ (fun y w hw => ⟨1, hw.2.1, Or.inr rfl, ?_⟩), ref _ (fun y w hw => hw.2.1), fun u w hu hw => up u w 4 hlw hu hw⟩
    rw [if_neg (by decide)]
theorem text_law {j : Nat} {σ τ : ax_S} (h : RR j σ τ) : good j mX11_text mX12_text [ax_i 1] σ τ := by
  obtain ⟨T, hT, hC, hM, -⟩ := h.tape
  obtain ⟨lw, hlw, hc4, hm13, up, put⟩ := h.laws
  have n1 : ¬ (1 : Int32) = 0 := by decide
  by_cases full : 4 ≤ lw
  · have g1 : (4 : Int32) ≤ σ.1 4 4 := by rw [hc4]; exact (n_le 4 lw).mpr full
    have g2 : (4 : Int32) ≤ τ.1 0 13 := by rw [hm13]; exact (n_le 4 lw).mpr full
    refine good.ask h (-1) ?_ ?_
    · obtain ⟨d, hd⟩ : ∃ e, 60 = e + 1 := ⟨59, rfl⟩
      rw [hd]
      refine ax_Ct.of (lv := [some (ax_r 0), some (ax_i 1)]) (by decide +kernel) (fun ad => Nat.le_of_ble_eq_true rfl) (fun ad => rfl) ?_
      exact s_X11_text_0 (by omega) σ _ (fun z => absurd (Or.inr (fun q => q rfl)) z) (fun _ z => absurd rfl z) (fun _ _ _ => ⟨rfl, fo.rfl'⟩) (fun _ _ z => absurd g1 z)
    · obtain ⟨d, hd⟩ : ∃ e, 60 = e + 1 := ⟨59, rfl⟩
      rw [hd]
      refine ax_Ct.of (lv := [some (ax_r 0), some (ax_i 1)]) (by decide +kernel) (fun ad => Nat.le_of_ble_eq_true rfl) (fun ad => rfl) ?_
      exact s_X12_text_0 (by omega) τ _ (fun _ z => absurd rfl z) (fun _ _ _ => ⟨rfl, fo.rfl'⟩) (fun _ _ z => absurd g2 z) (fun z => absurd n1 z)
  have g1 : ¬ (4 : Int32) ≤ σ.1 4 4 := by rw [hc4]; exact fun z => full ((n_le 4 lw).mp z)
  have g2 : ¬ (4 : Int32) ≤ τ.1 0 13 := by rw [hm13]; exact fun z => full ((n_le 4 lw).mp z)
  obtain ⟨R, p, c, m⟩ := nt_reads hT (n0 := lw) (by omega)
  have cls : ∀ (Q : Option ax_V → ax_S → Prop), (∀ d, 40 ≤ d → ∀ y w, cR3 T σ R y w → ∃ b : Int32, y = some (ax_i b) ∧ (b = 0 ∨ b = 1) ∧ ax_W shC (d + 1) mX11_text Q 28 [some (ax_r 0), some (ax_i 1)] [ax_i b] w) → ax_Ct shC 60 mX11_text [ax_r 0, ax_i 1] Q σ := by
    intro Q K
    obtain ⟨d, hd⟩ : ∃ e, 60 = e + 1 + 1 := ⟨58, rfl⟩
    rw [hd]
    refine ax_Ct.of (lv := [some (ax_r 0), some (ax_i 1)]) (by decide +kernel) (fun ad => Nat.le_of_ble_eq_true rfl) (fun ad => rfl) ?_
    refine s_X11_text_0 (by omega) σ _ (fun z => absurd (Or.inr (fun q => q rfl)) z) (fun _ z => absurd rfl z) (fun _ _ z => absurd z g1) (fun _ _ _ => ?_)
    refine ax_Ct.of (lv := [some (ax_r 0), some (ax_i 1)]) (by decide +kernel) (fun ad => Nat.le_of_ble_eq_true rfl) (fun ad => rfl) ?_
    refine s_X11_tapeReads_0 (by omega) σ _ (fun _ => ?_) (fun z => absurd n1 z)
    refine (c d σ (by omega) hC).mono (fun y w hw => ?_)
    obtain ⟨b, k1, k2, k3⟩ := K (d + 1) (by omega) y w hw
    exact ⟨b, k1, s_X11_tapeReads_21 (by omega) w _ ⟨b, rfl, k3⟩ k2⟩
  have ref : ∀ (Q : Option ax_V → ax_S → Prop), (∀ d, 40 ≤ d → ∀ y w, mR3 T lw τ R y w → ∃ b : Int32, y = some (ax_i b) ∧ ax_W shM (d + 1) mX12_text Q 43 [some (ax_r 0), none] [ax_i b] w) → ax_Ct shM 60 mX12_text [ax_r 0, ax_i 1] Q τ := by
    intro Q K
    obtain ⟨d, hd⟩ : ∃ e, 60 = e + 1 := ⟨59, rfl⟩
    rw [hd]
    refine ax_Ct.of (lv := [some (ax_r 0), some (ax_i 1)]) (by decide +kernel) (fun ad => Nat.le_of_ble_eq_true rfl) (fun ad => rfl) ?_
    refine s_X12_text_0 (by omega) τ _ (fun _ z => absurd rfl z) (fun _ _ z => absurd z g2) (fun _ _ _ => ?_) (fun z => absurd n1 z)
    rw [hm13]
    exact (m d τ (by omega) hM).mono (fun y w hw => K d (by omega) y w hw)
  cases R with
  | inl n =>
    have hTl := hT.1
    refine ⟨-1, fun u => fo scC u σ, fun w => fo (lmH lw) w τ, cls _ (fun d hd y w hw => ⟨0, hw.2.1, Or.inl rfl, s_X11_text_28 (by omega) w _ _ (fun z => absurd rfl z) (fun z => absurd rfl z) (fun _ => ⟨rfl, lr_sc hw.1⟩)⟩), ref _ (fun d hd y w hw => ⟨_, hw.2, s_X12_text_43 (by omega) w _ (fun _ => ⟨rfl, hw.1⟩) (fun z => absurd (n_m1 (T.length - n)) z)⟩), fun u w hu hw => up u w lw (Nat.le_refl _) hu hw⟩
  | inr ls =>
    obtain ⟨p1, p2, p3, p4⟩ := p
    have hTl := hT.1
    have hlen := p2 0
    refine ⟨nI lw, fun u => fo (tlS lw) u σ ∧ u.1 1 1 = 0 ∧ u.1 4 4 = nI (lw + 1) ∧ lcC u lw (lw_enc 0 ls), fun w => fo (fun c i => lmH lw c i ∨ (c = 0 ∧ (i = 2 ∨ i = 13))) w τ ∧ w.1 0 2 = 0 ∧ w.1 0 13 = nI (lw + 1) ∧ w.1 5 lw = nI ls.length ∧ lmC w lw 0 0 ls, cls _ (fun d hd y w hw => ⟨1, hw.2.1, Or.inr rfl, ?_⟩), ref _ (fun d hd y w hw => ⟨_, hw.2.1, ?_⟩), fun u w hu hw => put u w ls (by omega) p1 (by omega) (by rw [fla_n]; omega) hu.1 hu.2.1 hu.2.2.1 hu.2.2.2 hw.1 hw.2.1 hw.2.2.1 hw.2.2.2.1 hw.2.2.2.2⟩
    · refine s_X11_text_28 (by omega) w _ _ (fun _ z => absurd rfl z) (fun _ _ => ?_) (fun z => absurd n1 z)
      obtain ⟨f1, -, w32, w18⟩ := hw
      have w44 : (ax_ui w 1 1 0).1 4 4 = nI lw := by rw [ui_cell (by omega), f1.1 4 4 (by unfold lrS nuS; omega)]; exact hc4
      have v32 : (ax_ui w 1 1 0).1 3 2 = nI (lw_enc 0 ls).length := by rw [ui_cell (by omega)]; exact w32
      have e240 : (ax_ui w 1 1 0).1 4 4 * (240 : Int32) = nI (lw * 240) := by rw [w44]; exact n_mul lw 240
      obtain ⟨d, rfl⟩ : ∃ e, d = e + 1 := ⟨d - 1, by omega⟩
      refine ax_Ct.of (lv := [some (ax_r 4), some (ax_r 3)]) (by decide +kernel) (fun ad => Nat.le_of_ble_eq_true rfl) (fun ad => rfl) ?_
      refine s_X7_add_0 (by omega) _ (fun _ => by rw [e240]; exact n_nn _) (fun _ => by rw [v32]; exact n_nn _) (fun _ => ?_) (fun _ => ?_) (fun _ => by rw [w44]; exact n_in _ _) (fun _ => ?_) (fun z => absurd (by rw [w44]; exact (n_lt lw 4).mpr (by omega)) z)
      · rw [v32, n_tn _]
        show 0 + (lw_enc 0 ls).length ≤ 240; omega
      · rw [v32, n_tn _, e240, n_tn _]; omega
      · rw [w44, v32, n_tn _, show nI lw * (240 : Int32) = nI (lw * 240) from n_mul lw 240, n_tn (lw * 240), n_tn lw, nI_1]
        have key : ∀ s : ax_S, s = ax_ui (ax_ui (ax_uf (ax_ui w 1 1 0) 19 (va_cpy ((ax_ui w 1 1 0).1 18) ((ax_ui w 1 1 0).1 19) (Int32.toNatClampNeg 0) (lw * 240) (lw_enc 0 ls).length)) 20 lw (nI (lw_enc 0 ls).length)) 4 4 (nI (lw + 1)) → fo (tlS lw) s σ ∧ s.1 1 1 = 0 ∧ s.1 4 4 = nI (lw + 1) ∧ lcC s lw (lw_enc 0 ls) := by
          rintro s rfl
          refine ⟨⟨fun c i hn => ?_, f1.2⟩, ?_, ui_same _ _ _ _, ?_, by omega, fun q x hx => ?_⟩
          · have hn' : ¬ (scC c i ∨ (c = 1 ∧ i = 1) ∨ (c = 4 ∧ i = 4) ∨ (c = 20 ∧ i = lw) ∨ (c = 19 ∧ 240 * lw ≤ i)) := hn
            have e0 : w.1 c i = σ.1 c i := f1.1 c i (fun z => hn (Or.inl ((lr_sc_c z))))
            have e1 : (ax_ui w 1 1 0).1 c i = w.1 c i := by
              by_cases e : c = 1
              · rw [e, ui_idx (by omega)]
              · rw [ui_cell e]
            have e2 : (ax_uf (ax_ui w 1 1 0) 19 (va_cpy ((ax_ui w 1 1 0).1 18) ((ax_ui w 1 1 0).1 19) (Int32.toNatClampNeg 0) (lw * 240) (lw_enc 0 ls).length)).1 c i = (ax_ui w 1 1 0).1 c i := by
              show (if c = 19 then va_cpy ((ax_ui w 1 1 0).1 18) ((ax_ui w 1 1 0).1 19) (Int32.toNatClampNeg 0) (lw * 240) (lw_enc 0 ls).length i else (ax_ui w 1 1 0).1 c i) = _
              by_cases e : c = 19
              · rw [if_pos e, e]
                show (if lw * 240 ≤ i ∧ i < lw * 240 + (lw_enc 0 ls).length then _ else (ax_ui w 1 1 0).1 19 i) = _
                rw [if_neg (by omega)]
              · rw [if_neg e]
            have e3 : (ax_ui (ax_uf (ax_ui w 1 1 0) 19 (va_cpy ((ax_ui w 1 1 0).1 18) ((ax_ui w 1 1 0).1 19) (Int32.toNatClampNeg 0) (lw * 240) (lw_enc 0 ls).length)) 20 lw (nI (lw_enc 0 ls).length)).1 c i = (ax_uf (ax_ui w 1 1 0) 19 (va_cpy ((ax_ui w 1 1 0).1 18) ((ax_ui w 1 1 0).1 19) (Int32.toNatClampNeg 0) (lw * 240) (lw_enc 0 ls).length)).1 c i := by
              by_cases e : c = 20
              · rw [e, ui_idx (by omega)]
              · rw [ui_cell e]
            rw [← e0, ← e1, ← e2, ← e3]
            by_cases e : c = 4
            · rw [e, ui_idx (by omega)]
            · rw [ui_cell e]
          · rw [ui_cell (by omega), ui_cell (by omega)]
            show (ax_ui w 1 1 0).1 1 1 = 0
            rw [ui_same]
          · rw [ui_cell (by omega), ui_same]
          · rw [ui_cell (by omega), ui_cell (by omega)]
            have hq := (List.getElem?_eq_some_iff.mp hx).1
            refine ⟨?_, enc_lt ls 0 p1 (by omega) x (List.mem_of_getElem? hx)⟩
            show va_cpy ((ax_ui w 1 1 0).1 18) ((ax_ui w 1 1 0).1 19) (Int32.toNatClampNeg 0) (lw * 240) (lw_enc 0 ls).length (lw * 240 + q) = nI x
            show (if lw * 240 ≤ lw * 240 + q ∧ lw * 240 + q < lw * 240 + (lw_enc 0 ls).length then (ax_ui w 1 1 0).1 18 (Int32.toNatClampNeg 0 + (lw * 240 + q - lw * 240)) else _) = nI x
            rw [if_pos ⟨by omega, by omega⟩, ui_cell (by omega), show Int32.toNatClampNeg 0 + (lw * 240 + q - lw * 240) = q by rw [show Int32.toNatClampNeg 0 = 0 from rfl]; omega]
            exact w18 q x hx
        exact ⟨_, rfl, s_X11_text_57 (by omega) _ _ ⟨by rw [show nI (lw + 1) - (1 : Int32) = nI lw from n_sub (lw + 1) 1], key _ rfl⟩⟩
    · refine s_X12_text_43 (by omega) w _ (fun z => absurd rfl z) (fun _ => ?_)
      obtain ⟨f1, -, w5, wl⟩ := hw
      have w13 : w.1 0 13 = nI lw := by rw [f1.1 0 13 (by unfold lmH lmG lmF; omega)]; exact hm13
      rw [w13, nI_1, show nI (lw + 1) - (1 : Int32) = nI lw from n_sub (lw + 1) 1]
      have f2 : fo (fun c i => c = 0 ∧ (i = 2 ∨ i = 13)) (ax_ui (ax_ui w 0 2 0) 0 13 (nI (lw + 1))) w := (fo.rfl'.ui (by omega)).ui (by omega)
      refine ⟨rfl, (f2.mono (fun c i z => Or.inr z)).trans (f1.mono (fun c i z => Or.inl z)), by rw [ui_idx (by omega), ui_same], ui_same _ _ _ _, by rw [f2.1 5 lw (by omega)]; exact w5, wl.to (fun c j hc => f2.1 c j (by omega))⟩
