/-! ===== FAULT ===== -/
def B0 : tB := mkB 0 0 0 (fun i => usB (0 + i)) (fun _ => 0) (fun _ => 0)
theorem B0_ok : bok B0 := ⟨fun i hi => usK 0 (by omega) i hi, fun h hh => absurd hh (Nat.not_lt_zero _), fun h hh => absurd hh (Nat.not_lt_zero _), Nat.zero_le _, Nat.zero_le _, Nat.zero_le _⟩
theorem nt_belt {T : List Nat} (hT : tkOk T) : ∃ R : rBt, PRF R ∧
    (∀ d u, 14 ≤ d → tkC u T → ax_Ct shC d mX1_reads [ax_r 2] (cQF T u R) u) ∧
    (∀ d u, 14 ≤ d → tkM u T → ax_Ct shM d mX12_readBelt [ax_r 0] (mQF T u R) u) := by
  have hTl := hT.1
  obtain ⟨R, p, c, m⟩ := lp_belt hT (T.length + 1) T (Nat.lt_succ_self _) (fun c hc => (hT.2 c hc).2) B0 B0_ok
  refine ⟨R, p, fun d u hd hu => ?_, fun d u hd hu => ?_⟩
  · obtain ⟨d, rfl⟩ : ∃ e, d = e + 1 := ⟨d - 1, by omega⟩
    refine ax_Ct.of (lv := [some (ax_r 2), none]) (by decide +kernel) (fun ad => Nat.le_of_ble_eq_true rfl) (fun ad => rfl) ?_
    refine s_X1_reads_0 (by omega) u ?_
    have f : fo (fun c i => (c = 1 ∧ i = 2) ∨ c = 2) (ax_ui (ax_ui (ax_ui (ax_ui u 1 2 0) 2 4 0) 2 5 0) 2 6 0) u := (((fo.rfl'.ui (by omega)).ui (by omega)).ui (by omega)).ui (by omega)
    refine (ct_setW (k := 0) (b := 0) (by omega) _ (by omega) (by decide)).mono ?_
    rintro y w ⟨rfl, w1, w2⟩
    refine ⟨rfl, s_X1_reads_34 (by omega) w (c d w 0 u (by omega) ⟨⟨⟨?_, fun i b hb => ?_⟩, [], rfl, ?_⟩, ?_, ?_, ?_, fun i hi => ?_, fun i hi => absurd hi (Nat.not_lt_zero _), fun i hi => absurd hi (Nat.not_lt_zero _)⟩ ((w1.mono (fun c i z => by unfold beC; omega)).trans (f.mono (fun c i z => by unfold beC; omega))) (by omega))⟩
    · rw [w1.1 1 1 (by omega), f.1 1 1 (by omega)]; exact hu.1
    · rw [w1.1 14 i (by omega), f.1 14 i (by omega)]; exact hu.2 i b hb
    · rw [w1.1 1 2 (by omega), ui_cell (by omega), ui_cell (by omega), ui_cell (by omega), ui_same]; rfl
    · rw [w1.1 2 4 (by omega), ui_idx (by omega), ui_idx (by omega), ui_same]; rfl
    · rw [w1.1 2 5 (by omega), ui_idx (by omega), ui_same]; rfl
    · rw [w1.1 2 6 (by omega), ui_same]; rfl
    · have := w2 i hi
      rw [Nat.zero_add] at this; exact this
  · obtain ⟨d, rfl⟩ : ∃ e, d = e + 1 := ⟨d - 1, by omega⟩
    refine ax_Ct.of (lv := [some (ax_r 0), none, none, none]) (by decide +kernel) (fun ad => Nat.le_of_ble_eq_true rfl) (fun ad => rfl) ?_
    refine s_X12_readBelt_0 (by omega) u ?_
    have f : fo (fun c i => c = 0 ∧ (i = 3 ∨ i = 4 ∨ i = 20 ∨ i = 21)) (ax_ui (ax_ui (ax_ui (ax_ui u 0 3 0) 0 4 (-1)) 0 20 0) 0 21 0) u := (((fo.rfl'.ui (by omega)).ui (by omega)).ui (by omega)).ui (by omega)
    refine (ct_X12_usual (k := 0) (i := 0) (by omega) _ (by omega) (by decide)).mono ?_
    rintro y w ⟨rfl, rfl⟩
    refine ⟨_, rfl, s_X12_readBelt_33 (by omega) _ _ _ _ (n_in 0 2) ?_⟩
    refine (ct_X12_usual (k := 0) (i := 1) (by omega) _ (by omega) (by decide)).mono ?_
    rintro y w ⟨rfl, rfl⟩
    refine ⟨_, rfl, s_X12_readBelt_45 (by omega) _ _ _ _ (n_in 1 2) ?_⟩
    rw [show Int32.toNatClampNeg (0 : Int32) = 0 from rfl, show Int32.toNatClampNeg (1 : Int32) = 1 from rfl]
    have f2 : fo (fun c i => c = 11 ∧ i < 2) (ax_ui (ax_ui (ax_ui (ax_ui (ax_ui (ax_ui u 0 3 0) 0 4 (-1)) 0 20 0) 0 21 0) 11 0 (nI (usB (kF 0 + 0)))) 11 1 (nI (usB (kF 0 + 1)))) (ax_ui (ax_ui (ax_ui (ax_ui u 0 3 0) 0 4 (-1)) 0 20 0) 0 21 0) := (fo.rfl'.ui ⟨rfl, by omega⟩).ui ⟨rfl, by omega⟩
    refine m d _ u (by omega) ⟨⟨⟨?_, fun i b hb => ?_⟩, [], rfl, ?_⟩, ?_, ?_, ?_, fun i hi => ?_, fun i hi => absurd hi (Nat.not_lt_zero _), fun i hi => absurd hi (Nat.not_lt_zero _)⟩ ((f2.mono (fun c i z => by unfold beM; omega)).trans (f.mono (fun c i z => by unfold beM; omega)))
    · rw [f2.1 0 2 (by omega), f.1 0 2 (by omega)]; exact hu.1
    · rw [f2.1 1 i (by omega), f.1 1 i (by omega)]; exact hu.2 i b hb
    · rw [f2.1 0 3 (by omega), ui_idx (by omega), ui_idx (by omega), ui_idx (by omega), ui_same]; rfl
    · rw [f2.1 0 4 (by omega), ui_idx (by omega), ui_idx (by omega), ui_same]
    · rw [f2.1 0 20 (by omega), ui_idx (by omega), ui_same]; rfl
    · rw [f2.1 0 21 (by omega), ui_same]; rfl
    · obtain rfl | rfl : i = 0 ∨ i = 1 := by omega
      · rw [ui_idx (by omega), ui_same]; rfl
      · rw [ui_same]; rfl
theorem be_sc {w u : ax_S} (h : fo beC w u) : fo scC w u := h.mono (fun c i z => by unfold beC at z; unfold scC scr; omega)
theorem bm_sc {w u : ax_S} (h : fo beM w u) : fo scM w u := h.mono (fun c i z => by unfold beM at z; unfold scM scm; omega)
theorem fault_belt {j : Nat} {σ τ : ax_S} (h : RR j σ τ) : good j mX11_fault mX12_fault [ax_i 0] σ τ := by
  obtain ⟨T, hT, hC, hM, -⟩ := h.tape
  obtain ⟨R, p, c, m⟩ := nt_belt hT
  have cls : ∀ (v : Int32), (∀ y w, cQF T σ R y w → ∃ b : Int32, y = some (ax_i b) ∧ (b = 0 ∨ b = 1) ∧ (if b = 0 then w.1 1 2 else (-1 : Int32)) = v) → ax_Ct shC 60 mX11_fault [ax_r 0, ax_i 0] (fun r u => r = some (ax_i v) ∧ fo scC u σ) σ := by
    intro v K
    obtain ⟨d, hd⟩ : ∃ e, 60 = e + 1 + 1 := ⟨58, rfl⟩
    rw [hd]
    refine ax_Ct.of (lv := [some (ax_r 0), some (ax_i 0)]) (by decide +kernel) (fun ad => Nat.le_of_ble_eq_true rfl) (fun ad => rfl) ?_
    refine s_X11_fault_0 (by omega) σ _ (fun _ => ?_) (fun z => absurd (Or.inl rfl) z)
    refine ax_Ct.of (lv := [some (ax_r 0), some (ax_i 0)]) (by decide +kernel) (fun ad => Nat.le_of_ble_eq_true rfl) (fun ad => rfl) ?_
    refine s_X11_tapeReads_0 (by omega) σ _ (fun z => absurd rfl z) (fun _ => ?_)
    refine (c d σ (by omega) hC).mono (fun y w hw => ?_)
    obtain ⟨b, k1, k2, k3⟩ := K y w hw
    refine ⟨b, k1, s_X11_tapeReads_11 (by omega) w _ ⟨b, rfl, s_X11_fault_15 (by omega) w _ ⟨by rw [k3], be_sc hw.1⟩⟩ k2⟩
  have ref : ∀ (v : Int32), (∀ y w, mQF T τ R y w → y = some (ax_i v)) → ax_Ct shM 60 mX12_fault [ax_r 0, ax_i 0] (fun r u => r = some (ax_i v) ∧ fo scM u τ) τ := by
    intro v K
    obtain ⟨d, hd⟩ : ∃ e, 60 = e + 1 := ⟨59, rfl⟩
    rw [hd]
    refine ax_Ct.of (lv := [some (ax_r 0), some (ax_i 0)]) (by decide +kernel) (fun ad => Nat.le_of_ble_eq_true rfl) (fun ad => rfl) ?_
    refine s_X12_fault_0 (by omega) τ _ (fun z => absurd rfl z) (fun z => absurd rfl z) (fun _ => ?_)
    refine (m d τ (by omega) hM).mono (fun y w hw => ?_)
    exact ⟨v, K y w hw, s_X12_fault_8 (by omega) w _ ⟨rfl, bm_sc hw.1⟩⟩
  cases R with
  | inl n =>
    refine good.ask h (nI (T.length - n)) (cls _ (fun y w hw => ⟨0, hw.2.1, Or.inl rfl, ?_⟩)) (ref _ (fun y w hw => hw.2))
    rw [if_pos rfl, hw.2.2]
  | inr B =>
    refine good.ask h (-1) (cls _ (fun y w hw => ⟨1, hw.2.1, Or.inr rfl, ?_⟩)) (ref _ (fun y w hw => hw.2.1))
    rw [if_neg (by decide)]
theorem good_fault {j : Nat} {σ τ : ax_S} (h : RR j σ τ) (a : Int32) : good j mX11_fault mX12_fault [ax_i a] σ τ := by
  by_cases e0 : a = 0
  · rw [e0]; exact fault_belt h
  by_cases e1 : a = 1
  · rw [e1]; exact fault_law h
  refine good.ask h (-2) ?_ ?_
  · obtain ⟨d, hd⟩ : ∃ e, 60 = e + 1 := ⟨59, rfl⟩
    rw [hd]
    refine ax_Ct.of (lv := [some (ax_r 0), some (ax_i a)]) (by decide +kernel) (fun ad => Nat.le_of_ble_eq_true rfl) (fun ad => rfl) ?_
    exact s_X11_fault_0 (by omega) σ _ (fun z => absurd z (fun q => q.elim e0 (fun t => t e1))) (fun _ => ⟨rfl, fo.rfl'⟩)
  · obtain ⟨d, hd⟩ : ∃ e, 60 = e + 1 := ⟨59, rfl⟩
    rw [hd]
    refine ax_Ct.of (lv := [some (ax_r 0), some (ax_i a)]) (by decide +kernel) (fun ad => Nat.le_of_ble_eq_true rfl) (fun ad => rfl) ?_
    exact s_X12_fault_0 (by omega) τ _ (fun _ _ => ⟨rfl, fo.rfl'⟩) (fun _ z => absurd e1 z) (fun z => absurd e0 z)
