/-! ===== COUPLES: the reference, both ===== -/
def cpM (c i : Nat) : Prop := c = 22 ∨ (c = 0 ∧ (i = 40 ∨ i = 41))
def ptI (k : Nat) : Int32 := if k = 9 then -1 else nI k
theorem ptI_m1 {k : Nat} (h : k < 100) : ptI k = -1 ↔ k = 9 := by
  unfold ptI; split
  · rename_i e; exact ⟨fun _ => e, fun _ => rfl⟩
  · rename_i e; exact ⟨fun z => absurd z (n_m1 k), fun z => absurd z e⟩
theorem rF_b {s x : Nat × Nat} {n : Nat} (h1 : s.1 ≤ 1000) (h2 : s.2 ≤ 10 ^ n) (x1 : x.1 ≤ 1000) (x2 : x.2 < 10 ^ n) : (rF s x).1 ≤ 1000 ∧ (rF s x).2 ≤ 10 ^ n := by
  unfold rF; split
  · exact ⟨x1, x2⟩
  · exact ⟨h1, h2⟩
theorem rF_all {n : Nat} : ∀ (l : List (Nat × Nat)) (s : Nat × Nat), s.1 ≤ 1000 → s.2 ≤ 10 ^ n → (∀ x ∈ l, x.1 ≤ 1000 ∧ x.2 < 10 ^ n) → (l.foldl rF s).1 ≤ 1000 ∧ (l.foldl rF s).2 ≤ 10 ^ n
  | [], s, h1, h2, _ => ⟨h1, h2⟩
  | x :: l, s, h1, h2, h => by
    rw [List.foldl_cons]
    have hx := h x List.mem_cons_self
    have := rF_b h1 h2 hx.1 hx.2
    exact rF_all l _ this.1 this.2 (fun y hy => h y (List.mem_cons_of_mem _ hy))
theorem ten8 {n : Nat} (h : n ≤ 8) : 10 ^ n ≤ 100000000 := Nat.le_trans (Nat.pow_le_pow_right (by decide) h) (by decide)
theorem hoI_m1' {k : Nat} (h : k < 2147483648) : hoI k = -1 ↔ k = 0 := by
  unfold hoI; split
  · rename_i e; exact ⟨fun _ => e, fun _ => rfl⟩
  · rename_i e; exact ⟨fun z => absurd z (n_m1 (k - 1)), fun z => absurd z e⟩
theorem w_X12_try14 {d : Nat} {τ u : ax_S} {n : Nat} (hn : n ≤ 8) (h23 : u.1 0 23 = nI n) {pt : Nat → Nat} {sum : Nat} {s : Nat × Nat} (hp : ∀ i, i < n → pt i < 9) (hs : s.1 ≤ 1000) (hs2 : s.2 ≤ 10 ^ n) (hsum : sum ≤ 1000) (h22 : ∀ i, i < n → u.1 22 i = ptI (pt i)) (h40 : u.1 0 40 = hoI s.2) (h41 : s.2 ≠ 0 → u.1 0 41 = nI s.1) {Q : Option ax_V → ax_S → Prop}
    (K1 : rF s (sum, pv pt n) = (sum, pv pt n + 1) → Q none (ax_ui (ax_ui u 0 40 (nI (pv pt n))) 0 41 (nI sum))) (K2 : rF s (sum, pv pt n) = s → Q none u) :
    ax_W shM (d + 1) mX12_tryCouples Q 14 [some (ax_r 0), none, none, some (ax_i (nI sum)), some (ax_i 0), some (ax_i 0)] [] u := by
  have ht := ten8 hn
  have loop := lp_up (m := n) (P := fun k => ax_W shM (d + 1) mX12_tryCouples Q 14 [some (ax_r 0), none, none, some (ax_i (nI sum)), some (ax_i (nI (pv pt k))), some (ax_i (nI k))] [] u) ?_ ?_
  · exact loop 0 (by omega)
  · have g : u.1 0 23 ≤ nI n := by rw [h23]; exact (n_le _ _).mpr (Nat.le_refl _)
    have hpv := pv_lt (p := pt) (k := n) (fun i hi => by have := hp i hi; omega)
    have e40 : u.1 0 40 = -1 ↔ s.2 = 0 := by rw [h40]; exact hoI_m1' (by omega)
    have up : (s.2 = 0 ∨ sum < s.1 ∨ (sum = s.1 ∧ pv pt n + 1 < s.2)) → rF s (sum, pv pt n) = (sum, pv pt n + 1) := fun z => by unfold rF; rw [if_pos z]
    have no : ¬ (s.2 = 0 ∨ sum < s.1 ∨ (sum = s.1 ∧ pv pt n + 1 < s.2)) → rF s (sum, pv pt n) = s := fun z => by unfold rF; rw [if_neg z]
    have e41 : ¬ u.1 0 40 = -1 → u.1 0 41 = nI s.1 := fun c => h41 (fun z => c (e40.mpr z))
    have lt1 : ¬ u.1 0 40 = -1 → (nI sum < u.1 0 41 ↔ sum < s.1) := fun c => by rw [e41 c]; exact n_lt _ _
    have eq1 : ¬ u.1 0 40 = -1 → (nI sum = u.1 0 41 ↔ sum = s.1) := fun c => by rw [e41 c]; exact n_eq _ _
    have le1 : ¬ u.1 0 40 = -1 → (u.1 0 40 ≤ nI (pv pt n) ↔ ¬ pv pt n + 1 < s.2) := fun c => by
      have c0 : s.2 ≠ 0 := fun z => c (e40.mpr z)
      obtain ⟨k, hk⟩ : ∃ k, s.2 = k + 1 := ⟨s.2 - 1, by omega⟩
      rw [h40, hk, hoI_s, n_le _ _]; omega
    refine s_X12_tryCouples_14 (by omega) u _ _ _ (fun _ c => K1 (up (Or.inl (e40.mp c)))) (fun _ c c1 => K1 (up (Or.inr (Or.inl ((lt1 c).mp c1))))) (fun _ c c1 c2 => K2 (no ?_)) (fun _ c c1 c2 c3 => K2 (no ?_)) (fun _ c c1 c2 c3 => K1 (up (Or.inr (Or.inr ⟨(eq1 c).mp (Classical.not_not.mp c2), Classical.not_not.mp (fun z => c3 ((le1 c).mpr z))⟩)))) (fun c => absurd g c) (fun c => absurd g c)
    · rintro (z | z | z)
      · exact c (e40.mpr z)
      · exact c1 ((lt1 c).mpr z)
      · exact c2 ((eq1 c).mpr z.1)
    · rintro (z | z | z)
      · exact c (e40.mpr z)
      · exact c1 ((lt1 c).mpr z)
      · exact (le1 c).mp c3 z.2
  · intro k hk ih
    have g : ¬ u.1 0 23 ≤ nI k := by rw [h23]; exact fun z => absurd ((n_le _ _).mp z) (by omega)
    refine s_X12_tryCouples_14 (by omega) u _ _ _ (fun c => absurd c g) (fun c => absurd c g) (fun c => absurd c g) (fun c => absurd c g) (fun c => absurd c g) (fun _ => n_in _ _) (fun _ => ?_)
    have hk9 := hp k hk
    have e : ptI (pt k) = nI (pt k) := if_neg (by omega)
    have e4 : (10 : Int32) * nI (pv pt k) + nI (pt k) = nI (pv pt (k + 1)) := by
      rw [show (10 : Int32) * nI (pv pt k) = nI (10 * pv pt k) from n_mul 10 _, n_add, pv]
    rw [n_tn k, h22 k hk, e, e4, nI_1]; exact ih
theorem ct_X12_tryCouples {τ : ax_S} {n : Nat} {E D : Nat → Nat} {dry : Nat} (hb : bk_ok n E D dry) (hM : bk_M τ n E D dry) : ∀ (f h : Nat) (pt : Nat → Nat) (al : Bool) (sum : Nat) (s : Nat × Nat) (u : ax_S) (d : Nat), h + f = n → f + 4 ≤ d → (∀ i, i < h → pt i ≠ 9) → (∀ i, pt i < 10) → sum ≤ 20 * h → s.1 ≤ 1000 → s.2 ≤ 10 ^ n → fo cpM u τ → (∀ i, i < n → u.1 22 i = ptI (pt i)) → u.1 0 40 = hoI s.2 → (s.2 ≠ 0 → u.1 0 41 = nI s.1) →
    ax_Ct shM d mX12_tryCouples [ax_r 0, ax_i (nI h), ax_i (if al then 1 else 0), ax_i (nI sum)] (fun r w => r = none ∧ fo cpM w τ ∧ (∀ i, i < n → w.1 22 i = ptI (pt i)) ∧ w.1 0 40 = hoI ((cpl n E f h pt al sum).foldl rF s).2 ∧ (((cpl n E f h pt al sum).foldl rF s).2 ≠ 0 → w.1 0 41 = nI ((cpl n E f h pt al sum).foldl rF s).1)) u := by
  have hn := hb.2.1
  have hE : ∀ h, h < n → E (4 * h) ≤ 20 := fun h hh => (hb.2.2.2.2.2.2.2.1 h hh).1
  intro f
  induction f with
  | zero =>
    intro h pt al sum s u d hf hd hp hp10 hsum hs hs2 hu h22 h40 h41
    obtain ⟨d, rfl⟩ : ∃ e, d = e + 1 := ⟨d - 1, by omega⟩
    refine ax_Ct.of (lv := [some (ax_r 0), some (ax_i (nI h)), some (ax_i (if al then 1 else 0)), some (ax_i (nI sum)), none, none]) (by decide +kernel) (fun ad => Nat.le_of_ble_eq_true rfl) (fun ad => rfl) ?_
    have e23 : u.1 0 23 = nI n := by rw [hu.1 0 23 (by unfold cpM; omega)]; exact hM.1
    have g : nI h = u.1 0 23 := by rw [e23, show h = n by omega]
    refine s_X12_tryCouples_0 (by omega) u _ _ _ (fun c => absurd g c) (fun c => absurd g c) (fun c => absurd g c) (fun c => absurd g c) (fun c => absurd g c) (fun _ => ?_)
    have ec : (cpl n E 0 h pt al sum).foldl rF s = rF s (sum, pv pt n) := by rw [cpl, show h = n by omega]; rfl
    rw [ec]
    refine w_X12_try14 (τ := τ) hn e23 (pt := pt) (fun i hi => by have := hp i (by omega); have := hp10 i; omega) hs hs2 (by omega) h22 h40 h41 (fun e => ?_) (fun e => ?_)
    · rw [e]
      refine ⟨rfl, (hu.ui (by unfold cpM; omega)).ui (by unfold cpM; omega), fun i hi => by rw [ui_cell (by omega), ui_cell (by omega)]; exact h22 i hi, by rw [ui_idx (by omega), ui_same]; rfl, fun _ => ui_same _ _ _ _⟩
    · rw [e]; exact ⟨rfl, hu, h22, h40, h41⟩
  | succ f ih =>
    intro h pt al sum s u d hf hd hp hp10 hsum hs hs2 hu h22 h40 h41
    obtain ⟨d, rfl⟩ : ∃ e, d = e + 1 := ⟨d - 1, by omega⟩
    have e23 : ∀ {w : ax_S}, fo cpM w τ → w.1 0 23 = nI n := fun hw => by rw [hw.1 0 23 (by unfold cpM; omega)]; exact hM.1
    have g : ¬ nI h = u.1 0 23 := by rw [e23 hu]; exact fun z => absurd ((n_eq _ _).mp z) (by omega)
    have e22 : u.1 22 (Int32.toNatClampNeg (nI h)) = -1 ↔ pt h = 9 := by rw [n_tn h, h22 h (by omega)]; exact ptI_m1 (by have := hp10 h; omega)
    have bd : ∀ h' pt' al' sum' (s : Nat × Nat), h' + f = n → (∀ i, pt' i < 10) → sum' ≤ 20 * h' → s.1 ≤ 1000 → s.2 ≤ 10 ^ n → ((cpl n E f h' pt' al' sum').foldl rF s).1 ≤ 1000 ∧ ((cpl n E f h' pt' al' sum').foldl rF s).2 ≤ 10 ^ n := fun h' pt' al' sum' s q1 q2 q3 q4 q5 => rF_all _ s q4 q5 (fun x hx => by
      have := cpl_pre hE hn f h' pt' al' sum' x q1 q2 hx
      exact ⟨by omega, this.2.1⟩)
    refine ax_Ct.of (lv := [some (ax_r 0), some (ax_i (nI h)), some (ax_i (if al then 1 else 0)), some (ax_i (nI sum)), none, none]) (by decide +kernel) (fun ad => Nat.le_of_ble_eq_true rfl) (fun ad => rfl) ?_
    by_cases z : pt h = 9
    · have loop : ∀ q o s u, o + q = n → h < o → s.1 ≤ 1000 → s.2 ≤ 10 ^ n → fo cpM u τ → (∀ i, i < n → u.1 22 i = ptI (pt i)) → u.1 0 40 = hoI s.2 → (s.2 ≠ 0 → u.1 0 41 = nI s.1) → ∀ s', s' = (cpO (fun o => cpl n E f (h + 1) (dset (dset pt h o) o h) al (sum + dst (E (4 * h)) (E (4 * o)))) (fun o => decide (pt o = 9) && !chap E h o) q o).foldl rF s →
          ax_W shM (d + 1) mX12_tryCouples (fun r w => r = none ∧ fo cpM w τ ∧ (∀ i, i < n → w.1 22 i = ptI (pt i)) ∧ w.1 0 40 = hoI s'.2 ∧ (s'.2 ≠ 0 → w.1 0 41 = nI s'.1)) 141 [some (ax_r 0), some (ax_i (nI h)), some (ax_i (if al then 1 else 0)), some (ax_i (nI sum)), some (ax_i (nI o)), none] [] u := by
        intro q
        induction q with
        | zero =>
          intro o s u ho hho hs hs2 hu h22 h40 h41 s' hs'
          have g : u.1 0 23 ≤ nI o := by rw [e23 hu]; exact (n_le _ _).mpr (by omega)
          have e : s' = s := hs'
          subst e
          exact s_X12_tryCouples_141 (by omega) u _ _ _ _ (fun _ => ⟨rfl, hu, h22, h40, h41⟩) (fun c => absurd g c) (fun c => absurd g c) (fun c => absurd g c) (fun c => absurd g c) (fun c => absurd g c) (fun c => absurd g c) (fun c => absurd g c) (fun c => absurd g c) (fun c => absurd g c) (fun c => absurd g c)
        | succ q ihq =>
          intro o s u ho hho hs hs2 hu h22 h40 h41 s' hs'
          have g : ¬ u.1 0 23 ≤ nI o := by rw [e23 hu]; exact fun z => absurd ((n_le _ _).mp z) (by omega)
          have e22o : u.1 22 (Int32.toNatClampNeg (nI o)) = -1 ↔ pt o = 9 := by rw [n_tn o, h22 o (by omega)]; exact ptI_m1 (by have := hp10 o; omega)
          have ih3 : (4 : Int32) * nI h + 3 = nI (4 * h + 3) := n_h h 3
          have io3 : (4 : Int32) * nI o + 3 = nI (4 * o + 3) := n_h o 3
          have ih0 : (4 : Int32) * nI h + 0 = nI (4 * h + 0) := n_h h 0
          have io0 : (4 : Int32) * nI o + 0 = nI (4 * o + 0) := n_h o 0
          have m14 : ∀ i k, i < n → k < 4 → u.1 14 (4 * i + k) = nI (E (4 * i + k)) := fun i k hi hk => by rw [hu.1 14 _ (by unfold cpM; omega)]; exact hM.2.2.2 i k hi hk
          have k14 : ∀ i, i < n → (u.1 14 (4 * i + 3) = (2 : Int32) ↔ E (4 * i + 3) = 2) := fun i hi => by
            have := (hb.2.2.2.2.2.2.2.1 i hi).2.2.2.1
            rw [m14 i 3 hi (by omega)]; exact n_eq _ 2
          have t3 : Int32.toNatClampNeg (nI (4 * h + 3)) = 4 * h + 3 := n_tn _
          have u3 : Int32.toNatClampNeg (nI (4 * o + 3)) = 4 * o + 3 := n_tn _
          have t0 : Int32.toNatClampNeg (nI (4 * h + 0)) = 4 * h := n_tn _
          have u0 : Int32.toNatClampNeg (nI (4 * o + 0)) = 4 * o := n_tn _
          have hch : ((¬ (¬ (u.1 14 (Int32.toNatClampNeg ((4 : Int32) * nI h + 3))) = (2 : Int32))) ∧ (¬ (¬ (u.1 14 (Int32.toNatClampNeg ((4 : Int32) * nI o + 3))) = (2 : Int32)))) ↔ chap E h o = true := by
            rw [ih3, io3, t3, u3, Classical.not_not, Classical.not_not, k14 h (by omega), k14 o (by omega)]; simp [chap]
          have skip : (decide (pt o = 9) && !chap E h o) = false → ax_W shM (d + 1) mX12_tryCouples (fun r w => r = none ∧ fo cpM w τ ∧ (∀ i, i < n → w.1 22 i = ptI (pt i)) ∧ w.1 0 40 = hoI s'.2 ∧ (s'.2 ≠ 0 → w.1 0 41 = nI s'.1)) 141 [some (ax_r 0), some (ax_i (nI h)), some (ax_i (if al then 1 else 0)), some (ax_i (nI sum)), some (ax_i (nI o + 1)), none] [] u := fun e => by
            rw [nI_1]
            refine ihq (o + 1) s u (by omega) (by omega) hs hs2 hu h22 h40 h41 s' ?_
            rw [hs', cpO, e, if_neg (by decide), List.nil_append]
          refine s_X12_tryCouples_141 (by omega) u _ _ _ _ (fun c => absurd c g) (fun _ => n_in _ _) (fun _ c => ?_) (fun _ _ => by rw [ih3]; exact n_in _ _) (fun _ _ _ => by rw [io3]; exact n_in _ _) (fun _ _ c => ?_) (fun _ _ _ => n_in _ _) (fun _ _ _ => n_in _ _) (fun _ _ _ => by rw [ih0]; exact n_in _ _) (fun _ _ _ => by rw [io0]; exact n_in _ _) (fun _ c c2 => ?_)
          · exact skip (by rw [decide_eq_false (fun y => c (e22o.mpr y))]; rfl)
          · exact skip (by rw [hch.mp c]; exact Bool.and_false _)
          · have c9 : pt o = 9 := e22o.mp (Classical.not_not.mp c)
            have cc : chap E h o = false := by cases y : chap E h o
                                               · rfl
                                               · exact absurd (hch.mpr y) c2
            have ph := hE h (by omega)
            have po := hE o (by omega)
            have hds : dst (E (4 * h)) (E (4 * o)) ≤ 20 := by unfold dst; split <;> omega
            have mh : u.1 14 (4 * h) = nI (E (4 * h)) := m14 h 0 (by omega) (by omega)
            have mo : u.1 14 (4 * o) = nI (E (4 * o)) := m14 o 0 (by omega) (by omega)
            rw [n_tn h, n_tn o, ih0, io0, t0, u0, mh, mo, dst_abs (by omega) (by omega), n_add, nI_1]
            have hp' : ∀ i, dset (dset pt h o) o h i < 10 := dset_lt (dset_lt hp10 (by omega)) (by omega)
            refine (ih (h + 1) (dset (dset pt h o) o h) al (sum + dst (E (4 * h)) (E (4 * o))) s (ax_ui (ax_ui u 22 h (nI o)) 22 o (nI h)) d (by omega) (by omega) (fun i hi => ?_) hp' (by omega) hs hs2 ((hu.ui (Or.inl rfl)).ui (Or.inl rfl)) (fun i hi => ?_) (by rw [ui_cell (by omega), ui_cell (by omega)]; exact h40) (by rw [ui_cell (by omega), ui_cell (by omega)]; exact h41)).mono ?_
            · by_cases e : i = h
              · rw [e, dset_ne (by omega), dset_eq]; omega
              · rw [dset_ne (by omega), dset_ne e]; exact hp i (by omega)
            · by_cases e : i = o
              · rw [e, ui_same, dset_eq]; exact (if_neg (by omega)).symm
              · rw [ui_idx e, dset_ne e]
                by_cases e2 : i = h
                · rw [e2, ui_same, dset_eq]; exact (if_neg (by omega)).symm
                · rw [ui_idx e2, dset_ne e2]; exact h22 i hi
            · rintro r w ⟨rfl, w1, w2, w3, w4⟩
              refine ⟨rfl, s_X12_tryCouples_204 (by omega) w _ _ _ _ (n_in _ _) (n_in _ _) ?_⟩
              rw [nI_1, n_tn h, n_tn o]
              have hbd := bd (h + 1) _ al _ s (by omega) hp' (show sum + dst (E (4 * h)) (E (4 * o)) ≤ 20 * (h + 1) by omega) hs hs2
              refine ihq (o + 1) _ _ (by omega) (by omega) hbd.1 hbd.2 ((w1.ui (Or.inl rfl)).ui (Or.inl rfl)) (fun i hi => ?_) (by rw [ui_cell (by omega), ui_cell (by omega)]; exact w3) (by rw [ui_cell (by omega), ui_cell (by omega)]; exact w4) s' ?_
              · by_cases e : i = o
                · rw [e, ui_same, c9]; rfl
                · rw [ui_idx e]
                  by_cases e2 : i = h
                  · rw [e2, ui_same, z]; rfl
                  · rw [ui_idx e2, w2 i hi, dset_ne e, dset_ne e2]
              · rw [hs', cpO, c9, cc, if_pos (by decide), List.foldl_append]
      have ecp : ∀ al' : Bool, cpl n E (f + 1) h pt al' sum = (if al' then cpl n E f (h + 1) (dset pt h h) false sum else []) ++ cpO (fun o => cpl n E f (h + 1) (dset (dset pt h o) o h) al' (sum + dst (E (4 * h)) (E (4 * o)))) (fun o => decide (pt o = 9) && !chap E h o) (n - (h + 1)) (h + 1) := fun al' => by rw [cpl, if_pos z]
      cases al
      · refine s_X12_tryCouples_0 (by omega) u _ _ _ (fun _ => n_in _ _) (fun _ _ _ => ?_) (fun _ _ c => absurd rfl c) (fun _ _ c => absurd rfl c) (fun _ c => absurd (e22.mpr z) c) (fun c => absurd g c)
        rw [nI_1]
        refine loop (n - (h + 1)) (h + 1) s u (by omega) (by omega) hs hs2 hu h22 h40 h41 _ ?_
        rw [ecp false, if_neg (by decide), List.nil_append]
      · refine s_X12_tryCouples_0 (by omega) u _ _ _ (fun _ => n_in _ _) (fun _ _ c => absurd c (by decide)) (fun _ _ _ => n_in _ _) (fun _ _ _ => ?_) (fun _ c => absurd (e22.mpr z) c) (fun c => absurd g c)
        rw [n_tn h, nI_1]
        have hp' : ∀ i, dset pt h h i < 10 := dset_lt hp10 (by omega)
        refine (ih (h + 1) (dset pt h h) false sum s (ax_ui u 22 h (nI h)) d (by omega) (by omega) (fun i hi => ?_) hp' (by omega) hs hs2 (hu.ui (Or.inl rfl)) (fun i hi => ?_) (by rw [ui_cell (by omega)]; exact h40) (by rw [ui_cell (by omega)]; exact h41)).mono ?_
        · by_cases e : i = h
          · rw [e, dset_eq]; omega
          · rw [dset_ne e]; exact hp i (by omega)
        · by_cases e : i = h
          · rw [e, ui_same, dset_eq]; exact (if_neg (by omega)).symm
          · rw [ui_idx e, dset_ne e]; exact h22 i hi
        · rintro r w ⟨rfl, w1, w2, w3, w4⟩
          refine ⟨rfl, s_X12_tryCouples_129 (by omega) w _ _ _ (n_in _ _) ?_⟩
          rw [nI_1, n_tn h]
          have hbd := bd (h + 1) _ false _ s (by omega) hp' (show sum ≤ 20 * (h + 1) by omega) hs hs2
          refine loop (n - (h + 1)) (h + 1) _ _ (by omega) (by omega) hbd.1 hbd.2 (w1.ui (Or.inl rfl)) (fun i hi => ?_) (by rw [ui_cell (by omega)]; exact w3) (by rw [ui_cell (by omega)]; exact w4) _ ?_
          · by_cases e : i = h
            · rw [e, ui_same, z]; rfl
            · rw [ui_idx e, w2 i hi, dset_ne e]
          · rw [ecp true, if_pos rfl, List.foldl_append]
    · refine s_X12_tryCouples_0 (by omega) u _ _ _ (fun _ => n_in _ _) (fun _ c => absurd (e22.mp c) z) (fun _ c => absurd (e22.mp c) z) (fun _ c => absurd (e22.mp c) z) (fun _ _ => ?_) (fun c => absurd g c)
      rw [nI_1]
      refine (ih (h + 1) pt al sum s u d (by omega) (by omega) (fun i hi => ?_) hp10 (by omega) hs hs2 hu h22 h40 h41).mono ?_
      · by_cases e : i = h
        · rw [e]; exact z
        · exact hp i (by omega)
      · rintro r w ⟨rfl, w1, w2, w3, w4⟩
        refine ⟨rfl, s_X12_tryCouples_108 (by omega) w ⟨rfl, w1, w2, ?_, ?_⟩⟩
        · rw [cpl, if_neg z]; exact w3
        · rw [cpl, if_neg z]; exact w4
theorem odd_C {n : Nat} (hn : n ≤ 8) : (if (¬ (¬ (nI n - nI n / (2 : Int32) * (2 : Int32)) = (1 : Int32))) then (1 : Int32) else 0) = if decide (n % 2 = 1) then 1 else 0 := by
  rw [show nI n - nI n / (2 : Int32) * (2 : Int32) = nI (n % 2) from n_rem n 2]
  have e := n_eq (n % 2) 1
  by_cases z : n % 2 = 1
  · rw [decide_eq_true z, if_pos (show ¬ ¬ nI (n % 2) = (1 : Int32) from not_not_intro (e.mpr z)), if_pos rfl]
  · rw [decide_eq_false z, if_neg (show ¬ ¬ ¬ nI (n % 2) = (1 : Int32) from fun q => q (fun y => z (e.mp y))), if_neg (by decide)]
theorem good_couples {j : Nat} {σ τ : ax_S} (h : RR j σ τ) (a0 : Int32) : good j mX11_couples mX12_couples [ax_i a0] σ τ := by
  obtain ⟨n, E, D, dry, kp, hb, hlg, hC, hM, hok, hK, hKm, -⟩ := h.stroke
  have hn := hb.2.1
  have zC := hb_C hC.1 hn
  have zM := hb_M hM.1 hn
  have hE : ∀ h, h < n → E (4 * h) ≤ 20 := fun h hh => (hb.2.2.2.2.2.2.2.1 h hh).1
  have ht := ten8 hn
  by_cases g : ¬ n = 0 ∧ ∃ b : Bool, a0 = if b then 1 else 0
  · obtain ⟨hn0, w, rfl⟩ := g
    have q1 : ¬ σ.1 5 9 ≤ 0 := fun q => hn0 (zC.mp q)
    have q2 : ¬ τ.1 0 23 = 0 := fun q => hn0 (zM.mp q)
    have bw := (bit_C (if w then 1 else 0)).mpr ⟨w, rfl⟩
    have mw := (bit_M (if w then 1 else 0)).mpr ⟨w, rfl⟩
    let l := cpl n E n 0 (fun _ => 9) (decide (n % 2 = 1)) 0
    have hl1 : l.Pairwise (fun a b => a.2 < b.2) := cpl_pw hE hn n 0 _ _ _ (by omega) (fun _ => by omega)
    have hl2 : ∀ x ∈ l, x.1 < 1000 := fun x hx => by have := (cpl_pre hE hn n 0 _ _ _ x (by omega) (fun _ => by omega) hx).2.2; omega
    have hl3 : ∀ x ∈ l, x.1 ≤ 1000 ∧ x.2 < 10 ^ n := fun x hx => ⟨Nat.le_of_lt (hl2 x hx), (cpl_pre hE hn n 0 _ _ _ x (by omega) (fun _ => by omega) hx).2.1⟩
    have hR := cF_rF l (1000, 0) (0, 0) hl1 hl2 (Or.inl ⟨rfl, rfl⟩)
    have hB := rF_all (n := n) l (0, 0) (by show (0 : Nat) ≤ 1000; omega) (Nat.zero_le _) hl3
    let t := l.foldl rF (0, 0)
    refine good.ask h (if t.2 = 0 then -1 else if w then nI (t.2 - 1) else nI t.1) ?_ ?_
    · refine ax_Ct.of (lv := [some (ax_r 0), some (ax_i (if w then 1 else 0))]) (by decide +kernel) (fun ad => Nat.le_of_ble_eq_true rfl) (fun ad => rfl) ?_
      refine s_X11_couples_0 (d := 59) (by omega) σ _ (fun c => absurd q1 c) (fun _ c => absurd bw c) (fun _ _ => ?_)
      refine ax_Ct.mono (Q1 := fun r u => r = some (ax_i (if t.2 = 0 then 0 else 1)) ∧ fo cpS u σ ∧ u.1 10 2 = nI (l.foldl cF (1000, 0)).1 ∧ u.1 10 3 = hoI (l.foldl cF (1000, 0)).2) ?_ ?_
      · refine ax_Ct.of (lv := [some (ax_r 10)]) (by decide +kernel) (fun ad => Nat.le_of_ble_eq_true rfl) (fun ad => rfl) ?_
        refine s_X4_seek_0 (d := 58) (by omega) σ ?_
        have e9 : σ.1 5 9 = nI n := hC.1
        rw [e9, odd_C hn]
        refine (ct_X4_pairFrom hb hC n 0 (fun _ => 9) (decide (n % 2 = 1)) 0 0 (1000, 0) (ax_ui (ax_ui σ 10 2 1000) 10 3 (-1)) 58 (by omega) (by omega) (fun i hi => absurd hi (by omega)) (fun i _ hi => by rw [b_0]; rfl) (by omega) (by show (1000 : Nat) ≤ 1000; omega) ((fo.rfl'.ui (Or.inl rfl)).ui (Or.inl rfl)) (fun i _ hq => absurd rfl hq) (by rw [ui_idx (by omega), ui_same]; rfl) (ui_same _ _ _ _)).mono ?_
        rintro r u ⟨rfl, u1, -, u3, u4⟩
        refine ⟨rfl, s_X4_seek_37 (by omega) u ⟨?_, u1, u3, u4⟩⟩
        rw [u3]
        rcases hR with ⟨e1, e2⟩ | ⟨e1, e2, e3, -⟩
        · have e2' : t.2 = 0 := by show (l.foldl rF (0, 0)).2 = 0; rw [e2]
          have e1' : (cpl n E n 0 (fun _ => 9) (decide (n % 2 = 1)) 0).foldl cF (1000, 0) = (1000, 0) := e1
          rw [if_pos e2', e1', if_neg (show ¬ ¬ (1000 : Int32) ≤ nI 1000 from not_not_intro ((n_le 1000 1000).mpr (Nat.le_refl _)))]
        · have e3' : ¬ t.2 = 0 := by show ¬ (l.foldl rF (0, 0)).2 = 0; rw [e3]; exact e1
          have e2' : ((cpl n E n 0 (fun _ => 9) (decide (n % 2 = 1)) 0).foldl cF (1000, 0)).1 < 1000 := e2
          rw [if_neg e3']
          generalize ((cpl n E n 0 (fun _ => 9) (decide (n % 2 = 1)) 0).foldl cF (1000, 0)).1 = y at e2' ⊢
          rw [if_pos (show ¬ (1000 : Int32) ≤ nI y from fun z => absurd ((n_le 1000 y).mp z) (by omega))]
      · rintro r u ⟨rfl, u1, u3, u4⟩
        have fu : fo scC u σ := u1.mono (fun c i h => by unfold cpS at h; unfold scC; omega)
        refine ⟨_, rfl, s_X11_couples_21 (by omega) u _ _ (fun c => ⟨?_, fu⟩) (fun c => ⟨?_, fu⟩)⟩
        · have c2 : ¬ t.2 = 0 := fun z => c (by rw [if_pos z])
          rw [if_neg c2, u3, u4]
          rcases hR with ⟨e1, e2⟩ | ⟨e1, e2, e3, -⟩
          · exact absurd (by show (l.foldl rF (0, 0)).2 = 0; rw [e2]) c2
          · rw [← e3]
            have e4 : hoI (l.foldl rF (0, 0)).2 = nI (t.2 - 1) := if_neg c2
            rw [e4]
            cases w
            · rfl
            · rfl
        · have c2 : t.2 = 0 := Classical.not_not.mp (fun z => c (by rw [if_neg z]; decide))
          rw [if_pos c2]
    · refine ax_Ct.of (lv := [some (ax_r 0), some (ax_i (if w then 1 else 0)), none]) (by decide +kernel) (fun ad => Nat.le_of_ble_eq_true rfl) (fun ad => rfl) ?_
      refine s_X12_couples_0 (d := 59) (by omega) τ _ (fun c => absurd c q2) (fun _ _ => ?_) (fun _ c => absurd mw c)
      have first := lp_up (m := 8) (P := fun k => ∀ u, fo cpM u τ → (∀ i, i < k → u.1 22 i = -1) → ax_W shM (59 + 1) mX12_couples (fun r u => r = some (ax_i (if t.2 = 0 then -1 else if w then nI (t.2 - 1) else nI t.1)) ∧ fo scM u τ) 20 [some (ax_r 0), some (ax_i (if w then 1 else 0)), some (ax_i (nI k))] [] u) ?_ ?_
      · exact first 0 (by omega) τ fo.rfl' (fun i hi => absurd hi (by omega))
      · intro u hu h22
        refine s_X12_couples_20 (by omega) u _ _ (fun _ => ?_) (fun c => absurd ((n_le 8 8).mpr (by omega)) c) (fun c => absurd ((n_le 8 8).mpr (by omega)) c)
        have e23 : u.1 0 23 = nI n := by rw [hu.1 0 23 (by unfold cpM; omega)]; exact hM.1
        rw [e23, odd_C hn]
        refine (ct_X12_tryCouples hb hM n 0 (fun _ => 9) (decide (n % 2 = 1)) 0 (0, 0) (ax_ui (ax_ui u 0 40 (-1)) 0 41 0) 59 (by omega) (by omega) (fun i hi => absurd hi (by omega)) (fun _ => by omega) (by omega) (by show (0 : Nat) ≤ 1000; omega) (Nat.zero_le _) ((hu.ui (by unfold cpM; omega)).ui (by unfold cpM; omega)) (fun i hi => by rw [ui_cell (by omega), ui_cell (by omega)]; exact h22 i (by omega)) (by rw [ui_idx (by omega), ui_same]; rfl) (fun z => absurd rfl z)).mono ?_
        rintro r v ⟨rfl, v1, -, v3, v4⟩
        refine ⟨rfl, s_X12_couples_70 (by omega) v _ ⟨?_, v1.mono (fun c i h => by unfold cpM at h; unfold scM; omega)⟩⟩
        have v3' : v.1 0 40 = hoI t.2 := v3
        have v4' : t.2 ≠ 0 → v.1 0 41 = nI t.1 := v4
        have hB2 : t.2 ≤ 10 ^ n := hB.2
        have em := hoI_m1' (k := t.2) (by omega)
        rw [v3']
        by_cases z : t.2 = 0
        · rw [if_pos (em.mpr z), if_pos z, em.mpr z]
        · have e4 : hoI t.2 = nI (t.2 - 1) := if_neg z
          rw [if_neg (fun y => z (em.mp y)), if_neg z, v4' z, e4]
          cases w
          · rfl
          · rfl
      · intro k hk ih u hu h22
        refine s_X12_couples_20 (by omega) u _ _ (fun c => absurd ((n_le 8 k).mp c) (by omega)) (fun _ => n_in _ _) (fun _ => ?_)
        rw [n_tn k, nI_1]
        refine ih _ (hu.ui (Or.inl rfl)) (fun i hi => ?_)
        by_cases e : i = k
        · rw [e, ui_same]
        · rw [ui_idx e]; exact h22 i (by omega)
  · refine good.ask h (-1) ?_ ?_
    · refine ax_Ct.of (lv := [some (ax_r 0), some (ax_i a0)]) (by decide +kernel) (fun ad => Nat.le_of_ble_eq_true rfl) (fun ad => rfl) ?_
      exact s_X11_couples_0 (d := 59) (by omega) σ _ (fun _ => ⟨rfl, fo.rfl'⟩) (fun _ _ => ⟨rfl, fo.rfl'⟩) (fun c1 c2 => absurd ⟨fun q => c1 (zC.mpr q), (bit_C _).mp c2⟩ g)
    · refine ax_Ct.of (lv := [some (ax_r 0), some (ax_i a0), none]) (by decide +kernel) (fun ad => Nat.le_of_ble_eq_true rfl) (fun ad => rfl) ?_
      exact s_X12_couples_0 (d := 59) (by omega) τ _ (fun _ => ⟨rfl, fo.rfl'⟩) (fun c1 c2 => absurd ⟨fun q => c1 (zM.mpr q), (bit_M _).mp c2⟩ g) (fun _ _ => ⟨rfl, fo.rfl'⟩)
