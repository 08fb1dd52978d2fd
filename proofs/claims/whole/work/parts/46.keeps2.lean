theorem lcC.to {σ u : ax_S} {i : Nat} {code : List Nat} (h : lcC σ i code) (hk : ∀ c j, c = 19 ∨ c = 20 → u.1 c j = σ.1 c j) : lcC u i code := by
  obtain ⟨h1, h2, h3⟩ := h
  exact ⟨by rw [hk 20 i (by omega)]; exact h1, h2, fun j w hw => by rw [hk 19 _ (by omega)]; exact h3 j w hw⟩
/-- how the class holds the houses' numbers that a law may read -/
def hsC (σ : ax_S) (n : Nat) (E D : Nat → Nat) (dry : Nat) : Prop := σ.1 5 13 = nI dry ∧ dry ≤ 9 ∧ ∀ h, h < n → σ.1 24 h = nI (E (4 * h + 1)) ∧ σ.1 25 h = nI (D h) ∧ σ.1 26 h = nI (E (4 * h + 3)) ∧ E (4 * h + 1) ≤ 9 ∧ D h ≤ 99 ∧ E (4 * h + 3) ≤ 3
theorem ltt_in {p t l k c y : Nat} (hp : p ≤ 999) (ht : t ≤ 9) (hl : l ≤ 99) (hk : k ≤ 3) (hc : c ≤ 17) (hy : y ≤ 9) (j : Nat) : lo_in (ltt p t l k c y j) := by
  unfold ltt lo_in
  repeat' split
  all_goals omega
theorem skK_of {σ : ax_S} {n : Nat} {E D : Nat → Nat} {dry lw ho : Nat} {L : Nat → List (List (Nat × Nat) × List (Nat × Nat))} (hok : lwok lw ho L) (hH : hsC σ n E D dry) (hL : lwC σ lw ho L) (hn : n ≤ 8) : sk_K σ n (kpf E D dry ho L) := by
  obtain ⟨h513, hdry, hh⟩ := hH
  obtain ⟨l44, l45, llaw⟩ := hL
  by_cases h0 : ho = 0
  · refine Or.inl ⟨by rw [l45, h0]; rfl, fun h p c hhn hp hc1 hc17 => ?_⟩
    have : p / (c + 1) ≤ p := Nat.div_le_self _ _
    rw [h513, n_add, sk_cl_n (by omega) hp]
    unfold kpf; rw [if_pos h0]
  · have hv : σ.1 4 5 = nI (ho - 1) := by rw [l45, hoI, if_neg h0]
    obtain ⟨hlw, hho, hLok⟩ := hok
    refine Or.inr ⟨by rw [hv]; exact n_m1 _, fun u h p c hu hhn hp hc1 hc17 => ?_⟩
    obtain ⟨g1, g2, g3, g4, g5, g6⟩ := hh h hhn
    have k : ∀ c' j, c' = 4 ∧ (j = 4 ∨ j = 5) ∨ c' = 19 ∨ c' = 20 → (sk_le u h p c).1 c' j = σ.1 c' j := by
      intro c' j hcj
      have h1 : (sk_le u h p c).1 c' j = u.1 c' j := by
        unfold sk_le
        have hne : c' ≠ 21 := by omega
        simp only [ui_cell hne]
      rw [h1, hu.1 c' j (by unfold scr; omega)]
    have u24 : u.1 24 h = nI (E (4 * h + 1)) := by rw [hu.1 24 h (by unfold scr; omega)]; exact g1
    have u25 : u.1 25 h = nI (D h) := by rw [hu.1 25 h (by unfold scr; omega)]; exact g2
    have u26 : u.1 26 h = nI (E (4 * h + 3)) := by rw [hu.1 26 h (by unfold scr; omega)]; exact g3
    have u513 : u.1 5 13 = nI dry := by rw [hu.1 5 13 (by unfold scr; omega)]; exact h513
    have hltin := ltt_in (p := p) (t := E (4 * h + 1)) (l := D h) (k := E (4 * h + 3)) (c := c) (y := dry) hp g4 g5 g6 hc17 hdry
    obtain ⟨w1, w2, w3⟩ := hLok (ho - 1) (by omega)
    refine (ct_X7_worth (lt := ltt p (E (4 * h + 1)) (D h) (E (4 * h + 3)) c dry) (by omega) (i := ho - 1) (lw := lw) (by omega) hlw (by rw [k 4 4 (by omega)]; exact l44) (by rw [k 4 5 (by omega)]; exact hv) ((llaw (ho - 1) (by omega)).to (fun c' j hc => k c' j (by omega))) w1 (fun j hj => ⟨?_, hltin j⟩)).mono ?_
    · have : j = 0 ∨ j = 1 ∨ j = 2 ∨ j = 3 ∨ j = 4 ∨ j = 5 := by omega
      rcases this with rfl | rfl | rfl | rfl | rfl | rfl
      · simp [sk_le, ui_any, ltt, zI_nat]
      · simp [sk_le, ui_any, ltt, zI_nat, u24]
      · simp [sk_le, ui_any, ltt, zI_nat, u25]
      · simp [sk_le, ui_any, ltt, zI_nat, u26]
      · simp [sk_le, ui_any, ltt, zI_nat]
      · simp [sk_le, ui_any, ltt, zI_nat, u513]
    · rintro r v ⟨rfl, hv2⟩
      refine ⟨_, rfl, hv2.mono (fun c' i hi => hi), ?_⟩
      rw [sk_cl_z (lw_val_in (fun j _ => hltin j) w1) hp]
      unfold kpf; rw [if_neg h0]
/-- how the reference holds the houses -/
def hsM (τ : ax_S) (n : Nat) (E D : Nat → Nat) (dry : Nat) : Prop := τ.1 0 24 = nI dry ∧ dry ≤ 9 ∧ mD τ D ∧ ∀ h, h < n → τ.1 14 (4 * h + 1) = nI (E (4 * h + 1)) ∧ τ.1 14 (4 * h + 3) = nI (E (4 * h + 3)) ∧ E (4 * h + 1) ≤ 9 ∧ D h ≤ 99 ∧ E (4 * h + 3) ≤ 3
set_option maxHeartbeats 1000000 in
theorem mkK_of {τ : ax_S} {n : Nat} {E D : Nat → Nat} {dry lw ho : Nat} {L : Nat → List (List (Nat × Nat) × List (Nat × Nat))} (hok : lwok lw ho L) (hH : hsM τ n E D dry) (hL : lwM τ lw ho L) (hn : n ≤ 8) : mk_K τ n (kpf E D dry ho L) := by
  obtain ⟨h24, hdry, hmD, hh⟩ := hH
  obtain ⟨l13, l27, llaw⟩ := hL
  obtain ⟨hlw, hho, hLok⟩ := hok
  intro u h p c hu hhn hp hc1 hc17
  obtain ⟨g1, g3, g4, g5, g6⟩ := hh h hhn
  have k : ∀ c' j, c' = 0 ∧ (j = 13 ∨ j = 24 ∨ j = 27) ∨ c' = 2 ∨ c' = 3 ∨ c' = 5 ∨ c' = 6 ∨ c' = 7 ∨ c' = 8 ∨ c' = 14 ∨ c' = 15 → u.1 c' j = τ.1 c' j := fun c' j hcj => hu.1 c' j (by unfold scm; omega)
  refine ax_Ct.of (lv := [some (ax_r 0), some (ax_i (nI h)), some (ax_i (nI p)), some (ax_i (nI c)), none]) (by decide +kernel) (fun ad => Nat.le_of_ble_eq_true rfl) (fun ad => rfl) ?_
  have hc1' : ¬ (nI c + (1 : Int32)) = 0 := by rw [nI_1]; exact fun z => absurd ((n_eq (c + 1) 0).mp z) (by omega)
  have u27 : u.1 0 27 = hoI ho := by rw [k 0 27 (by omega)]; exact l27
  have u24 : u.1 0 24 = nI dry := by rw [k 0 24 (by omega)]; exact h24
  by_cases h0 : ho = 0
  · have hm1 : u.1 0 27 = -1 := by rw [u27, h0]; rfl
    refine s_X12_keepsBy_0 (by omega) u _ _ _ hc1' (fun _ => ⟨?_, fo.rfl'⟩) (fun z => absurd hm1 z) (fun z => absurd hm1 z) (fun z => absurd hm1 z) (fun z => absurd hm1 z)
    have : p / (c + 1) ≤ p := Nat.div_le_self _ _
    have hcl := sk_cl_n (w := p / (c + 1) + dry) (p := p) (by omega) hp
    rw [nI_1, n_div p (c + 1), u24, n_add]
    unfold sk_cl at hcl
    rw [hcl]
    unfold kpf; rw [if_pos h0]
  · have hv : u.1 0 27 = nI (ho - 1) := by rw [u27, hoI, if_neg h0]
    have hm1 : ¬ u.1 0 27 = -1 := by rw [hv]; exact n_m1 _
    have i1 : vp_in ((4 : Int32) * nI h + (1 : Int32)) 32 := by show vp_in ((4 : Int32) * nI h + nI 1) 32; rw [n_h]; exact n_in _ _
    have i3 : vp_in ((4 : Int32) * nI h + (3 : Int32)) 32 := by show vp_in ((4 : Int32) * nI h + nI 3) 32; rw [n_h]; exact n_in _ _
    have e1 : u.1 14 (Int32.toNatClampNeg ((4 : Int32) * nI h + (1 : Int32))) = nI (E (4 * h + 1)) := by
      show u.1 14 (Int32.toNatClampNeg ((4 : Int32) * nI h + nI 1)) = _
      rw [n_h, n_tn (4 * h + 1), k 14 _ (by omega)]; exact g1
    have e3 : u.1 14 (Int32.toNatClampNeg ((4 : Int32) * nI h + (3 : Int32))) = nI (E (4 * h + 3)) := by
      show u.1 14 (Int32.toNatClampNeg ((4 : Int32) * nI h + nI 3)) = _
      rw [n_h, n_tn (4 * h + 3), k 14 _ (by omega)]; exact g3
    have e15 : u.1 15 (Int32.toNatClampNeg ((0 : Int32) + nI h)) = nI (D h) := by rw [n_0, n_tn h, k 15 _ (by omega)]; exact hmD h (by omega)
    refine s_X12_keepsBy_0 (by omega) u _ _ _ hc1' (fun z => absurd z hm1) (fun _ => i1) (fun _ => by rw [n_0]; exact n_in _ _) (fun _ => i3) (fun _ => ?_)
    rw [e1, e3, e15, u24, hv]
    have hltin := ltt_in (p := p) (t := E (4 * h + 1)) (l := D h) (k := E (4 * h + 3)) (c := c) (y := dry) hp g4 g5 g6 hc17 hdry
    obtain ⟨w1, w2, w3⟩ := hLok (ho - 1) (by omega)
    obtain ⟨m5, mC⟩ := llaw (ho - 1) (by omega)
    have z0 : fo (fun c _ => c = 9) u u := fo.rfl'
    have hlf : fo (fun c _ => c = 9) (ax_ui (ax_ui (ax_ui (ax_ui (ax_ui (ax_ui u 9 0 (nI p)) 9 1 (nI (E (4 * h + 1)))) 9 2 (nI (D h))) 9 3 (nI (E (4 * h + 3)))) 9 4 (nI c)) 9 5 (nI dry)) u := (((((z0.ui rfl).ui rfl).ui rfl).ui rfl).ui rfl).ui rfl
    refine (ct_X12_worthOf (lt := ltt p (E (4 * h + 1)) (D h) (E (4 * h + 3)) c dry) (by omega) (i := ho - 1) (law := L (ho - 1)) (by omega) w2 ?_ w3 (mC.to (fun c' j hc => ?_)) w1 (fun j hj => ⟨?_, hltin j⟩)).mono ?_
    · rw [hlf.1 5 _ (by omega), k 5 _ (by omega)]; exact m5
    · rw [hlf.1 c' j (by omega), k c' j (by omega)]
    · have : j = 0 ∨ j = 1 ∨ j = 2 ∨ j = 3 ∨ j = 4 ∨ j = 5 := by omega
      rcases this with rfl | rfl | rfl | rfl | rfl | rfl <;> simp [ui_any, ltt, zI_nat]
    · rintro r v ⟨rfl, hv2⟩
      refine ⟨_, rfl, s_X12_keepsBy_90 (by omega) v _ _ ⟨?_, ?_⟩⟩
      · have hcl := sk_cl_z (p := p) (lw_val_in (fun j _ => hltin j) w1) hp
        unfold sk_cl at hcl
        rw [hcl]
        unfold kpf; rw [if_neg h0]
      · exact (hv2.mono (fun c' i hi => Or.inr hi)).trans (hlf.mono (fun c' i hi => Or.inl hi))
