/-! ===== single, most, test, stroke, scorched ===== -/
theorem tch {D : Nat → Nat} {σ : ax_S} {n : Nat} {E : Nat → Nat} {dry : Nat} (hok : bk_ok n E D dry) (hC : bk_C σ n E D dry) {h : Nat} (hh : h < n) : (pn_set (D 84) (bk_lv D) &&& σ.1 31 h = 0) ↔ sk_cn (fun w => bk_w D w 0) (fun w => bk_w D w 1) (dk_lv D) h 99 = 0 := by
  have h84 := hok.2.2.2.1
  have ht := hC.2.2.2.2.2.2.2.2 h hh
  have hb : ∀ i, i < 32 → bt (pn_set (D 84) (bk_lv D) &&& σ.1 31 h) i = sk_on (fun w => bk_w D w 0) (fun w => bk_w D w 1) (dk_lv D) h 99 i := by
    intro i hi
    rw [b_and, pn_set_bt _ _ (by omega) i hi]
    by_cases hw : i < D 84
    · rw [ht i hw]
      have : ¬ i = 99 := by omega
      simp [sk_on, dk_lv, hw, this]
    · simp [sk_on, dk_lv, hw]
  unfold sk_cn
  rw [fb_ct_zero]
  constructor
  · intro e k hk
    rw [← hb k (by omega), e, b_0]
  · intro e
    refine b_ext fun i hi => ?_
    rw [hb i hi, b_0]
    by_cases hw : i < 17
    · exact e i hw
    · have : ¬ i < D 84 := by omega
      simp [sk_on, dk_lv, this]
theorem good_single {j : Nat} {σ τ : ax_S} (h : RR j σ τ) : good j mX11_single mX12_single [] σ τ := by
  obtain ⟨n, E, D, dry, kp, hb, hlg, hC, hM, hok, hK, hKm, -⟩ := h.stroke
  have hn := hb.2.1
  have e9 : σ.1 5 9 = nI n := hC.1
  have e23 : τ.1 0 23 = nI n := hM.1
  by_cases g : n = 0
  · have g1 : ¬ ¬ σ.1 5 9 ≤ 0 := not_not_intro ((hb_C e9 hn).mpr g)
    have g2 : ¬ ¬ τ.1 0 23 = 0 := not_not_intro ((hb_M e23 hn).mpr g)
    refine good.ask h (-1) ?_ ?_
    · refine ax_Ct.of (lv := [some (ax_r 0), none, none, none]) (by decide +kernel) (fun ad => Nat.le_of_ble_eq_true rfl) (fun ad => rfl) ?_
      refine s_X11_single_0 (d := 59) (by omega) σ ?_ ?_ <;> intros <;> try contradiction
      exact ⟨rfl, fo.rfl'⟩
    · refine ax_Ct.of (lv := [some (ax_r 0), none, none]) (by decide +kernel) (fun ad => Nat.le_of_ble_eq_true rfl) (fun ad => rfl) ?_
      refine s_X12_single_0 (d := 59) (by omega) τ ?_ ?_ <;> intros <;> try contradiction
      exact ⟨rfl, fo.rfl'⟩
  · have g1 : ¬ σ.1 5 9 ≤ 0 := fun z => g ((hb_C e9 hn).mp z)
    have g2 : ¬ τ.1 0 23 = 0 := fun z => g ((hb_M e23 hn).mp z)
    let p : Nat → Bool := fun h => decide (sk_cn (fun w => bk_w D w 0) (fun w => bk_w D w 1) (dk_lv D) h 99 = 0)
    refine good.ask h (pn_set n p) ?_ ?_
    · refine ax_Ct.of (lv := [some (ax_r 0), none, none, none]) (by decide +kernel) (fun ad => Nat.le_of_ble_eq_true rfl) (fun ad => rfl) ?_
      refine s_X11_single_0 (d := 59) (by omega) σ ?_ ?_ <;> intros <;> try contradiction
      refine (ct_live (by omega) hb hC).mono (fun r u hu => ⟨_, hu.1, ?_⟩)
      obtain ⟨-, rfl⟩ := hu
      refine s_X11_single_16 (by omega) u _ ?_
      have loop := lp_up (m := n) (P := fun k => ax_W shC (59 + 1) mX11_single (fun r w => r = some (ax_i (pn_set n p)) ∧ fo scC w u) 21 [some (ax_r 0), some (ax_i (pn_set (D 84) (bk_lv D))), some (ax_i (pn_set k p)), some (ax_i (nI k))] [] u) ?_ ?_
      · exact loop 0 (Nat.zero_le _)
      · have g : u.1 5 9 ≤ nI n := by rw [e9]; exact (n_le _ _).mpr (Nat.le_refl _)
        refine s_X11_single_21 (by omega) u _ _ _ ?_ ?_ ?_ ?_ <;> intros <;> try contradiction
        exact ⟨rfl, fo.rfl'⟩
      · intro k hk ih
        have g : ¬ u.1 5 9 ≤ nI k := by rw [e9]; exact fun z => absurd ((n_le _ _).mp z) (by omega)
        have ht := tch hb hC hk
        rw [← n_tn k] at ht
        refine s_X11_single_21 (by omega) u _ _ _ (fun z => absurd z g) (fun _ => n_in k 8) (fun _ z => ?_) (fun _ z => ?_)
        · have hp : p k = false := by
            simp only [p, decide_eq_false_iff_not]
            have := mt ht.mpr z
            rwa [n_tn k] at this
          rw [nI_1, show pn_set k p = pn_set (k + 1) p by show _ = _ ||| _; rw [hp]; simp]
          exact ih
        · have hp : p k = true := by
            simp only [p, decide_eq_true_eq]
            have := ht.mp (Classical.not_not.mp z)
            rwa [n_tn k] at this
          rw [nI_1]
          have : pn_set (k + 1) p = pn_set k p ||| (1 : Int32) <<< (nI k &&& 31) := by show _ ||| _ = _; rw [hp]; rfl
          rw [← this]
          exact ih
    · refine ax_Ct.of (lv := [some (ax_r 0), none, none]) (by decide +kernel) (fun ad => Nat.le_of_ble_eq_true rfl) (fun ad => rfl) ?_
      refine s_X12_single_0 (d := 59) (by omega) τ ?_ ?_ <;> intros <;> try contradiction
      have loop := lp_up (m := n) (P := fun k => ax_W shM (59 + 1) mX12_single (fun r w => r = some (ax_i (pn_set n p)) ∧ fo scM w τ) 13 [some (ax_r 0), some (ax_i (pn_set k p)), some (ax_i (nI k))] [] τ) ?_ ?_
      · exact loop 0 (Nat.zero_le _)
      · have g : τ.1 0 23 ≤ nI n := by rw [e23]; exact (n_le _ _).mpr (Nat.le_refl _)
        refine s_X12_single_13 (by omega) τ _ _ ?_ ?_ <;> intros <;> try contradiction
        exact ⟨rfl, fo.rfl'⟩
      · intro k hk ih
        have g : ¬ τ.1 0 23 ≤ nI k := by rw [e23]; exact fun z => absurd ((n_le _ _).mp z) (by omega)
        refine s_X12_single_13 (by omega) τ _ _ ?_ ?_ <;> intros <;> try contradiction
        refine (ct_X12_liveAt (by omega) hok hM.2.2.1 hk (Or.inl rfl)).mono (fun r u hu => ⟨_, hu.1, ?_⟩)
        obtain ⟨-, rfl⟩ := hu
        refine s_X12_single_28 (by omega) u _ _ _ ?_
        rw [nI_1]
        have hcn : sk_cn (fun w => bk_w D w 0) (fun w => bk_w D w 1) (dk_lv D) k 99 ≤ 17 := fb_ct_le _ _
        have e : (if ¬ nI (sk_cn (fun w => bk_w D w 0) (fun w => bk_w D w 1) (dk_lv D) k 99) = 0 then (0 : Int32) else (1 : Int32) <<< (nI k &&& 31)) = if p k then (1 : Int32) <<< (nI k &&& 31) else 0 := by
          by_cases z : sk_cn (fun w => bk_w D w 0) (fun w => bk_w D w 1) (dk_lv D) k 99 = 0
          · rw [if_neg (by rw [z]; exact not_not_intro rfl), if_pos (by simp only [p]; exact decide_eq_true z)]
          · rw [if_pos (show ¬ nI (sk_cn (fun w => bk_w D w 0) (fun w => bk_w D w 1) (dk_lv D) k 99) = 0 from fun q => z ((n_eq _ 0).mp q)), if_neg (by simp only [p]; simpa using z)]
        rw [e]
        exact ih
/-- the first of the greatest -/
def mxi (f : Nat → Nat) : Nat → Nat
  | 0 => 0
  | k + 1 => if f (mxi f k) < f k then k else mxi f k
theorem mxi_lt (f : Nat → Nat) : ∀ k, 0 < k → mxi f k < k
  | 0, h => absurd h (by omega)
  | k + 1, _ => by
    show (if f (mxi f k) < f k then k else mxi f k) < k + 1
    split
    · omega
    · by_cases hk : 0 < k
      · have := mxi_lt f k hk; omega
      · have : k = 0 := by omega
        subst this; exact Nat.lt_succ_self _
theorem ct_X0_highest {d : Nat} (hd : 1 ≤ d) {σ : ax_S} {n c : Nat} {f : Nat → Nat} (hc : shC[c]? = some (Sum.inr (false, 8))) (h9 : σ.1 5 9 = nI n) (hn : n ≤ 8) (h1 : 1 ≤ n) (hf : ∀ h, h < n → σ.1 c h = nI (f h) ∧ f h < 1000) :
    ax_Ct shC d mX0_highest [ax_r 5, ax_r c] (fun r u => r = some (ax_i (nI (mxi f n))) ∧ u = σ) σ := by
  obtain ⟨d, rfl⟩ : ∃ e, d = e + 1 := ⟨d - 1, by omega⟩
  refine ax_Ct.of (lv := [some (ax_r 5), some (ax_r c), none, none]) (by decide +kernel) (fun ad => Nat.le_of_ble_eq_true rfl) (fun ad => rfl) ?_
  refine s_X0_highest_0 (by omega) σ c 8 hc ?_
  have loop := lp_up (m := n) (P := fun k => 1 ≤ k → ax_W shC (d + 1) mX0_highest (fun r u => r = some (ax_i (nI (mxi f n))) ∧ u = σ) 4 [some (ax_r 5), some (ax_r c), some (ax_i (nI (mxi f k))), some (ax_i (nI k))] [] σ) ?_ ?_
  · have := loop 1 h1 (by omega)
    have e : mxi f 1 = 0 := by show (if f (mxi f 0) < f 0 then 0 else mxi f 0) = 0; split <;> rfl
    rw [e] at this
    exact this
  · intro _
    have g : σ.1 5 9 ≤ nI n := by rw [h9]; exact (n_le _ _).mpr (Nat.le_refl _)
    refine s_X0_highest_4 (by omega) σ c 8 hc _ _ ?_ ?_ ?_ ?_ ?_ <;> intros <;> try contradiction
    exact ⟨rfl, rfl⟩
  · intro k hk ih hk1
    have hm := mxi_lt f k hk1
    have g : ¬ σ.1 5 9 ≤ nI k := by rw [h9]; exact fun z => absurd ((n_le _ _).mp z) (by omega)
    have i1 := ih (by omega)
    obtain ⟨f1, f2⟩ := hf k hk
    obtain ⟨f3, f4⟩ := hf (mxi f k) (by omega)
    refine s_X0_highest_4 (by omega) σ c 8 hc _ _ (fun z => absurd z g) (fun _ => n_in k 8) (fun _ => n_in (mxi f k) 8) (fun _ z => ?_) (fun _ z => ?_)
    · rw [n_tn k, n_tn (mxi f k), f1, f3] at z
      have z' := (n_le _ _).mp z
      rw [show mxi f (k + 1) = mxi f k from if_neg (by omega)] at i1
      rw [nI_1]; exact i1
    · rw [n_tn k, n_tn (mxi f k), f1, f3] at z
      have z' : ¬ f k ≤ f (mxi f k) := fun q => z ((n_le _ _).mpr q)
      rw [show mxi f (k + 1) = k from if_pos (by omega)] at i1
      rw [nI_1]; exact i1
/-- the saltiest live wire, one more; 0: none -/
def sli (D : Nat → Nat) : Nat → Nat
  | 0 => 0
  | k + 1 => if bk_lv D k && (decide (sli D k = 0) || decide (bk_w D (sli D k - 1) 2 < bk_w D k 2)) then k + 1 else sli D k
theorem sli_le (D : Nat → Nat) : ∀ k, sli D k ≤ k
  | 0 => Nat.le_refl _
  | k + 1 => by
    have := sli_le D k
    rw [sli]
    split <;> omega
theorem hoI_s (k : Nat) : hoI (k + 1) = nI k := rfl
theorem hoI_m1 {k : Nat} (h : k < 1000) : hoI k = -1 ↔ k = 0 := by
  constructor
  · intro e
    cases k with
    | zero => rfl
    | succ k => exact absurd e (n_m1 k)
  · rintro rfl; rfl
theorem ct_X0_saltiest {d : Nat} (hd : 2 ≤ d) {σ : ax_S} {n : Nat} {E D : Nat → Nat} {dry : Nat} (hok : bk_ok n E D dry) (hC : bk_C σ n E D dry) :
    ax_Ct shC d mX0_saltiest [ax_r 5, ax_i (pn_set (D 84) (bk_lv D))] (fun r u => r = some (ax_i (hoI (sli D (D 84)))) ∧ u = σ) σ := by
  obtain ⟨d, rfl⟩ : ∃ e, d = e + 1 := ⟨d - 1, by omega⟩
  have h84 := hok.2.2.2.1
  have e10 : σ.1 5 10 = nI (D 84) := hC.2.1
  refine ax_Ct.of (lv := [some (ax_r 5), some (ax_i (pn_set (D 84) (bk_lv D))), none, none]) (by decide +kernel) (fun ad => Nat.le_of_ble_eq_true rfl) (fun ad => rfl) ?_
  refine s_X0_saltiest_0 (by omega) σ _ ?_
  have loop := lp_up (m := D 84) (P := fun k => ax_W shC (d + 1) mX0_saltiest (fun r u => r = some (ax_i (hoI (sli D (D 84)))) ∧ u = σ) 4 [some (ax_r 5), some (ax_i (pn_set (D 84) (bk_lv D))), some (ax_i (hoI (sli D k))), some (ax_i (nI k))] [] σ) ?_ ?_
  · exact loop 0 (Nat.zero_le _)
  · have g : σ.1 5 10 ≤ nI (D 84) := by rw [e10]; exact (n_le _ _).mpr (Nat.le_refl _)
    refine s_X0_saltiest_4 (by omega) σ _ _ _ ?_ ?_ ?_ ?_ ?_ ?_ ?_ <;> intros <;> try contradiction
    exact ⟨rfl, rfl⟩
  · intro k hk ih
    have hs := sli_le D k
    have g : ¬ σ.1 5 10 ≤ nI k := by rw [e10]; exact fun z => absurd ((n_le _ _).mp z) (by omega)
    have hbt : bt (pn_set (D 84) (bk_lv D)) k = bk_lv D k := by rw [pn_set_bt _ _ (by omega) k (by omega)]; simp [hk]
    have hbo := pn_bitOf1 (pn_set (D 84) (bk_lv D)) k (by omega)
    rw [hbt] at hbo
    have ek := (hC.2.2.2.2.2.2.1 k hk).2.2
    have bk := (hok.2.2.2.2.2.2.2.2 k hk).2.2.2.1
    by_cases z0 : sli D k = 0
    · have q0 : hoI (sli D k) = -1 := (hoI_m1 (by omega)).mpr z0
      refine s_X0_saltiest_4 (by omega) σ _ _ _ (fun z => absurd z g) (fun _ z => ?_) (fun _ z _ => ?_) (fun _ _ z => absurd q0 z) (fun _ _ z => absurd q0 z) (fun _ _ z => absurd q0 z) (fun _ _ z => absurd q0 z)
      · have hl : bk_lv D k = false := by
          cases hq : bk_lv D k
          · rfl
          · exact absurd (hbo.mpr hq) z
        rw [nI_1, show sli D k = sli D (k + 1) by show _ = if _ then _ else _; rw [hl]; rfl]
        exact ih
      · have hl : bk_lv D k = true := hbo.mp (Classical.not_not.mp z)
        rw [nI_1, ← hoI_s k, show k + 1 = sli D (k + 1) by show _ = if _ then _ else _; rw [hl, z0]; rfl]
        have := ih
        rw [show sli D (k + 1) = k + 1 by show (if _ then _ else _) = _; rw [hl, z0]; rfl] at this ⊢
        exact this
    · have q0 : ¬ hoI (sli D k) = -1 := fun z => z0 ((hoI_m1 (by omega)).mp z)
      have hw : sli D k - 1 < D 84 := by omega
      have em := (hC.2.2.2.2.2.2.1 _ hw).2.2
      have bm := (hok.2.2.2.2.2.2.2.2 _ hw).2.2.2.1
      have qI : hoI (sli D k) = nI (sli D k - 1) := if_neg z0
      refine s_X0_saltiest_4 (by omega) σ _ _ _ (fun z => absurd z g) (fun _ z => ?_) (fun _ _ z => absurd z q0) (fun _ _ _ => n_in k 17) (fun _ _ _ => by rw [qI]; exact n_in _ _) (fun _ z _ z2 => ?_) (fun _ z _ z2 => ?_)
      · have hl : bk_lv D k = false := by
          cases hq : bk_lv D k
          · rfl
          · exact absurd (hbo.mpr hq) z
        rw [nI_1, show sli D k = sli D (k + 1) by show _ = if _ then _ else _; rw [hl]; rfl]
        exact ih
      · have hl : bk_lv D k = true := hbo.mp (Classical.not_not.mp z)
        rw [qI, n_tn k, n_tn (sli D k - 1), ek, em] at z2
        have z3 := (n_le _ _).mp z2
        rw [nI_1, show sli D k = sli D (k + 1) by show _ = if _ then _ else _; rw [hl, if_neg]; simp; omega]
        exact ih
      · have hl : bk_lv D k = true := hbo.mp (Classical.not_not.mp z)
        rw [qI, n_tn k, n_tn (sli D k - 1), ek, em] at z2
        have z3 : ¬ bk_w D k 2 ≤ bk_w D (sli D k - 1) 2 := fun q => z2 ((n_le _ _).mpr q)
        have e : sli D (k + 1) = k + 1 := by show (if _ then _ else _) = _; rw [hl, if_pos]; simp; omega
        rw [nI_1, ← hoI_s k]
        rw [e] at ih
        exact ih
theorem good_most {j : Nat} {σ τ : ax_S} (h : RR j σ τ) (x : Int32) : good j mX11_most mX12_most [ax_i x] σ τ := by
  obtain ⟨n, E, D, dry, kp, hb, hlg, hC, hM, hok, hK, hKm, -⟩ := h.stroke
  have hn := hb.2.1
  have h84 := hb.2.2.2.1
  have hmD := hM.2.2.1
  have e9 : σ.1 5 9 = nI n := hC.1
  have e23 : τ.1 0 23 = nI n := hM.1
  have e84 : τ.1 15 84 = nI (D 84) := hmD 84 (by omega)
  by_cases g : n = 0 ∨ ¬ ∃ k, 0 ≤ k ∧ k ≤ 2 ∧ x = nI k
  · have hx : ∀ m, m ≤ 2 → ¬ n = 0 → ¬ x = nI m := fun m hm hn0 e => g.elim hn0 (fun q => q ⟨m, by omega, hm, e⟩)
    have g1 : ¬ σ.1 5 9 ≤ 0 → ¬ n = 0 := fun z z2 => z ((hb_C e9 hn).mpr z2)
    have g2 : ¬ τ.1 0 23 = 0 → ¬ n = 0 := fun z z2 => z ((hb_M e23 hn).mpr z2)
    refine good.ask h (-1) ?_ ?_
    · refine ax_Ct.of (lv := [some (ax_r 0), some (ax_i x)]) (by decide +kernel) (fun ad => Nat.le_of_ble_eq_true rfl) (fun ad => rfl) ?_
      exact s_X11_most_0 (d := 59) (by omega) σ _ (fun z e => absurd e (hx 0 (by omega) (g1 z))) (fun z _ e => absurd e (hx 1 (by omega) (g1 z))) (fun z _ _ e => absurd e (hx 2 (by omega) (g1 z))) (fun _ _ _ _ => ⟨rfl, fo.rfl'⟩) (fun _ => ⟨rfl, fo.rfl'⟩)
    · refine ax_Ct.of (lv := [some (ax_r 0), some (ax_i x), none, none, none]) (by decide +kernel) (fun ad => Nat.le_of_ble_eq_true rfl) (fun ad => rfl) ?_
      exact s_X12_most_0 (d := 59) (by omega) τ _ (fun _ => ⟨rfl, fo.rfl'⟩) (fun z z2 => absurd ((in_R x 0 2).mp z2) (g.elim (fun e => absurd e (g2 z)) id)) (fun _ _ => ⟨rfl, fo.rfl'⟩)
  · have hn0 : ¬ n = 0 := fun z => g (Or.inl z)
    obtain ⟨m, -, hm, rfl⟩ : ∃ k, 0 ≤ k ∧ k ≤ 2 ∧ x = nI k := Classical.not_not.mp (fun z => g (Or.inr z))
    have g1 : ¬ σ.1 5 9 ≤ 0 := fun z => hn0 ((hb_C e9 hn).mp z)
    have g2 : ¬ τ.1 0 23 = 0 := fun z => hn0 ((hb_M e23 hn).mp z)
    have g3 : ¬ nI m < (0 : Int32) ∧ ¬ (2 : Int32) < nI m := (in_R (nI m) 0 2).mpr ⟨m, by omega, hm, rfl⟩
    have fH : ∀ h, h < n → σ.1 24 h = nI (E (4 * h + 1)) ∧ E (4 * h + 1) < 1000 := fun h hh => ⟨(hC.2.2.2.2.2.1 h hh).2.1, by have := (hb.2.2.2.2.2.2.2.1 h hh).2.2.1; omega⟩
    have fB : ∀ h, h < n → σ.1 27 h = nI (D (8 + h)) ∧ D (8 + h) < 1000 := fun h hh => ⟨(hC.2.2.2.2.2.1 h hh).2.2.2.2, by have := (hb.2.2.2.2.2.2.2.1 h hh).2.2.2.2.2.2; omega⟩
    -- the reference's second loop, over houses
    have hou : ∀ m, m ≤ 1 → ∀ f : Nat → Nat, (∀ h, h < n → (if ¬ nI m = 0 then τ.1 15 (Int32.toNatClampNeg ((8 : Int32) + nI h)) else τ.1 14 (Int32.toNatClampNeg ((4 : Int32) * nI h + 1))) = nI (f h) ∧ f h < 1000) → ax_W shM (59 + 1) mX12_most (fun r u => r = some (ax_i (nI (mxi f n))) ∧ fo scM u τ) 80 [some (ax_r 0), some (ax_i (nI m)), some (ax_i (-1)), some (ax_i 0), none] [] τ := by
      intro m hm f hf
      have q2 : ¬ (2 : Int32) ≤ nI m := fun z => absurd ((n_le 2 m).mp z) (by omega)
      have i8 : ∀ h, (8 : Int32) + nI h = nI (8 + h) := fun h => n_add 8 h
      have i4 : ∀ h, (4 : Int32) * nI h + 1 = nI (4 * h + 1) := fun h => n_h h 1
      have loop := lp_up (m := n) (P := fun k => ax_W shM (59 + 1) mX12_most (fun r u => r = some (ax_i (nI (mxi f n))) ∧ fo scM u τ) 80 [some (ax_r 0), some (ax_i (nI m)), some (ax_i (if k = 0 then (-1 : Int32) else nI (mxi f k))), some (ax_i (nI k)), none] [] τ) ?_ ?_
      · exact loop 0 (Nat.zero_le _)
      · have g : τ.1 0 23 ≤ nI n := by rw [e23]; exact (n_le _ _).mpr (Nat.le_refl _)
        refine s_X12_most_80 (by omega) τ _ _ _ ?_ ?_ ?_ ?_ ?_ ?_ ?_ <;> intros <;> try contradiction
        exact ⟨by rw [if_neg hn0], fo.rfl'⟩
      · intro k hk ih
        have g : ¬ τ.1 0 23 ≤ nI k := by rw [e23]; exact fun z => absurd ((n_le _ _).mp z) (by omega)
        rw [if_neg (by omega)] at ih
        by_cases k0 : k = 0
        · subst k0
          refine s_X12_most_80 (by omega) τ _ _ _ (fun z => absurd z g) (fun _ z => absurd z q2) (fun _ _ _ => by rw [i8]; exact n_in _ _) (fun _ _ _ => by rw [i4]; exact n_in _ _) (fun _ _ z => absurd rfl z) (fun _ _ z => absurd rfl z) (fun _ _ => ?_)
          rw [if_pos rfl, if_pos rfl, nI_1]
          have e : mxi f 1 = 0 := by show (if f (mxi f 0) < f 0 then 0 else mxi f 0) = 0; split <;> rfl
          rw [e] at ih
          exact ih
        · have hm1 := mxi_lt f k (by omega)
          obtain ⟨f1, f2⟩ := hf k hk
          obtain ⟨f3, f4⟩ := hf (mxi f k) (by omega)
          rw [if_neg k0]
          refine s_X12_most_80 (by omega) τ _ _ _ (fun z => absurd z g) (fun _ z => absurd z q2) (fun _ _ _ => by rw [i8]; exact n_in _ _) (fun _ _ _ => by rw [i4]; exact n_in _ _) (fun _ _ _ _ => by rw [i8]; exact n_in _ _) (fun _ _ _ _ => by rw [i4]; exact n_in _ _) (fun _ _ => ?_)
          rw [if_neg (n_m1 _), f1, f3, nI_1]
          have e : (if nI (f k) ≤ nI (f (mxi f k)) then nI (mxi f k) else nI k) = nI (mxi f (k + 1)) := by
            rw [mxi]
            by_cases z : f (mxi f k) < f k
            · rw [if_pos z, if_neg (fun q => absurd ((n_le _ _).mp q) (by omega))]
            · rw [if_neg z, if_pos ((n_le _ _).mpr (by omega))]
          rw [e]
          exact ih
    obtain rfl | rfl | rfl : m = 0 ∨ m = 1 ∨ m = 2 := by omega
    · refine good.ask h (nI (mxi (fun h => E (4 * h + 1)) n)) ?_ ?_
      · refine ax_Ct.of (lv := [some (ax_r 0), some (ax_i (nI 0))]) (by decide +kernel) (fun ad => Nat.le_of_ble_eq_true rfl) (fun ad => rfl) ?_
        refine s_X11_most_0 (d := 59) (by omega) σ _ (fun _ _ => ?_) (fun _ z => absurd rfl z) (fun _ z => absurd rfl z) (fun _ z => absurd rfl z) (fun z => absurd g1 z)
        refine (ct_X0_highest (by omega) shC_24 e9 hn (by omega) fH).mono (fun r u hu => ⟨_, hu.1, s_X11_most_50 (by omega) u _ ⟨rfl, by rw [hu.2]; exact fo.rfl'⟩⟩)
      · refine ax_Ct.of (lv := [some (ax_r 0), some (ax_i (nI 0)), none, none, none]) (by decide +kernel) (fun ad => Nat.le_of_ble_eq_true rfl) (fun ad => rfl) ?_
        refine s_X12_most_0 (d := 59) (by omega) τ _ ?_ ?_ ?_ <;> intros <;> try contradiction
        have hx2 : ¬ (nI 0 : Int32) = 2 := by decide
        refine s_X12_most_22 (by omega) τ _ _ _ (fun _ => ?_) (fun _ _ => ?_) (fun _ z => absurd hx2 z) (fun _ z => absurd hx2 z) (fun _ z => absurd hx2 z) (fun _ z => absurd hx2 z) (fun _ z => absurd hx2 z)
        all_goals
          refine hou 0 (by omega) _ (fun h hh => ⟨?_, (fH h hh).2⟩)
          rw [if_neg (show ¬ ¬ nI 0 = 0 from not_not_intro rfl), show (4 : Int32) * nI h + 1 = nI (4 * h + 1) from n_h h 1, n_tn _]
          exact hM.2.2.2 h 1 hh (by omega)
    · refine good.ask h (nI (mxi (fun h => D (8 + h)) n)) ?_ ?_
      · refine ax_Ct.of (lv := [some (ax_r 0), some (ax_i (nI 1))]) (by decide +kernel) (fun ad => Nat.le_of_ble_eq_true rfl) (fun ad => rfl) ?_
        refine s_X11_most_0 (d := 59) (by omega) σ _ (fun _ z => absurd z (by decide)) (fun _ _ _ => ?_) (fun _ _ z => absurd rfl z) (fun _ _ z => absurd rfl z) (fun z => absurd g1 z)
        refine (ct_X0_highest (by omega) shC_27 e9 hn (by omega) fB).mono (fun r u hu => ⟨_, hu.1, s_X11_most_65 (by omega) u _ ⟨rfl, by rw [hu.2]; exact fo.rfl'⟩⟩)
      · refine ax_Ct.of (lv := [some (ax_r 0), some (ax_i (nI 1)), none, none, none]) (by decide +kernel) (fun ad => Nat.le_of_ble_eq_true rfl) (fun ad => rfl) ?_
        refine s_X12_most_0 (d := 59) (by omega) τ _ ?_ ?_ ?_ <;> intros <;> try contradiction
        have hx2 : ¬ (nI 1 : Int32) = 2 := by decide
        refine s_X12_most_22 (by omega) τ _ _ _ (fun _ => ?_) (fun _ _ => ?_) (fun _ z => absurd hx2 z) (fun _ z => absurd hx2 z) (fun _ z => absurd hx2 z) (fun _ z => absurd hx2 z) (fun _ z => absurd hx2 z)
        all_goals
          refine hou 1 (by omega) _ (fun h hh => ⟨?_, (fB h hh).2⟩)
          rw [if_pos (show ¬ nI 1 = 0 by decide), show (8 : Int32) + nI h = nI (8 + h) from n_add 8 h, n_tn _]
          exact hmD (8 + h) (by omega)
    · refine good.ask h (hoI (sli D (D 84))) ?_ ?_
      · refine ax_Ct.of (lv := [some (ax_r 0), some (ax_i (nI 2))]) (by decide +kernel) (fun ad => Nat.le_of_ble_eq_true rfl) (fun ad => rfl) ?_
        refine s_X11_most_0 (d := 59) (by omega) σ _ (fun _ z => absurd z (by decide)) (fun _ _ z => absurd z (by decide)) (fun _ _ _ _ => ?_) (fun _ _ _ z => absurd rfl z) (fun z => absurd g1 z)
        refine (ct_live (by omega) hb hC).mono (fun r u hu => ⟨_, hu.1, s_X11_most_77 (by omega) u _ ?_⟩)
        obtain ⟨-, rfl⟩ := hu
        exact (ct_X0_saltiest (by omega) hb hC).mono (fun r w hw => ⟨_, hw.1, s_X11_most_80 (by omega) w _ ⟨rfl, by rw [hw.2]; exact fo.rfl'⟩⟩)
      · refine ax_Ct.of (lv := [some (ax_r 0), some (ax_i (nI 2)), none, none, none]) (by decide +kernel) (fun ad => Nat.le_of_ble_eq_true rfl) (fun ad => rfl) ?_
        refine s_X12_most_0 (d := 59) (by omega) τ _ ?_ ?_ ?_ <;> intros <;> try contradiction
        have hend : ∀ v, ax_W shM (59 + 1) mX12_most (fun r u => r = some (ax_i v) ∧ fo scM u τ) 80 [some (ax_r 0), some (ax_i (nI 2)), some (ax_i v), some (ax_i 0), none] [] τ := by
          intro v
          have q2 : (2 : Int32) ≤ nI 2 := by decide
          exact s_X12_most_80 (by omega) τ _ _ _ (fun _ => ⟨rfl, fo.rfl'⟩) (fun _ _ => ⟨rfl, fo.rfl'⟩) (fun _ z => absurd q2 z) (fun _ z => absurd q2 z) (fun _ z => absurd q2 z) (fun _ z => absurd q2 z) (fun _ z => absurd q2 z)
        have loop := lp_up (m := D 84) (P := fun k => ax_W shM (59 + 1) mX12_most (fun r u => r = some (ax_i (hoI (sli D (D 84)))) ∧ fo scM u τ) 22 [some (ax_r 0), some (ax_i (nI 2)), some (ax_i (hoI (sli D k))), some (ax_i (nI k)), none] [] τ) ?_ ?_
        · exact loop 0 (Nat.zero_le _)
        · have g : τ.1 15 84 ≤ nI (D 84) := by rw [e84]; exact (n_le _ _).mpr (Nat.le_refl _)
          refine s_X12_most_22 (by omega) τ _ _ _ ?_ ?_ ?_ ?_ ?_ ?_ ?_ <;> intros <;> try contradiction
          exact hend _
        · intro k hk ih
          have hs := sli_le D k
          have g : ¬ τ.1 15 84 ≤ nI k := by rw [e84]; exact fun z => absurd ((n_le _ _).mp z) (by omega)
          have w3 := hmD (16 + 4 * k + 3) (by omega)
          have w2 := hmD (16 + 4 * k + 2) (by omega)
          have i3 : (16 : Int32) + 4 * nI k + 3 = nI (16 + 4 * k + 3) := n_w k 3
          have i2 : (16 : Int32) + 4 * nI k + 2 = nI (16 + 4 * k + 2) := n_w k 2
          have bk := hb.2.2.2.2.2.2.2.2 k hk
          have i2' : ¬ hoI (sli D k) = -1 → (16 : Int32) + 4 * hoI (sli D k) + 2 = nI (16 + 4 * (sli D k - 1) + 2) := fun z => by
            have z0 : ¬ sli D k = 0 := fun q => z ((hoI_m1 (by omega)).mpr q)
            rw [show hoI (sli D k) = nI (sli D k - 1) from if_neg z0]; exact n_w _ 2
          refine s_X12_most_22 (by omega) τ _ _ _ (fun z => absurd z g) (fun _ z => absurd rfl z) (fun _ _ => by rw [i3]; exact n_in _ _) (fun _ _ _ => by rw [i2]; exact n_in _ _) (fun _ _ _ _ => by rw [i2]; exact n_in _ _) (fun _ _ _ z => by rw [i2' z]; exact n_in _ _) (fun _ _ => ?_)
          have ev : (if (¬ ((¬ (¬ (τ.1 15 (Int32.toNatClampNeg ((16 : Int32) + 4 * nI k + 3))) = 0)) ∧ (¬ ((9 : Int32) ≤ (τ.1 15 (Int32.toNatClampNeg ((16 : Int32) + 4 * nI k + 2))))))) then hoI (sli D k) else (if (hoI (sli D k) = (-1)) then nI k else (if ((τ.1 15 (Int32.toNatClampNeg ((16 : Int32) + 4 * nI k + 2))) ≤ (τ.1 15 (Int32.toNatClampNeg ((16 : Int32) + 4 * hoI (sli D k) + 2)))) then hoI (sli D k) else nI k))) = hoI (sli D (k + 1)) := by
            rw [i3, i2, n_tn _, n_tn _, w3, w2, sli]
            simp only [lv_if bk.2.2.2.1 bk.2.2.2.2]
            cases hl : bk_lv D k
            · simp
            · rw [if_neg (by simp)]
              by_cases z0 : sli D k = 0
              · rw [if_pos ((hoI_m1 (by omega)).mpr z0), if_pos (by simp [z0]), hoI_s]
              · have zz : ¬ hoI (sli D k) = -1 := fun q => z0 ((hoI_m1 (by omega)).mp q)
                have bm := hb.2.2.2.2.2.2.2.2 (sli D k - 1) (by omega)
                rw [if_neg zz, i2' zz, n_tn _, hmD _ (by omega)]
                by_cases z1 : bk_w D (sli D k - 1) 2 < bk_w D k 2
                · rw [if_neg (fun q => absurd ((n_le (bk_w D k 2) (bk_w D (sli D k - 1) 2)).mp q) (by omega)), if_pos (by simp [z0, z1]), hoI_s]
                · rw [if_pos ((n_le (bk_w D k 2) (bk_w D (sli D k - 1) 2)).mpr (by omega)), if_neg (by simp [z0]; omega)]
          rw [ev, nI_1]
          exact ih
/-! tests -/
theorem ts_p_cong {f g : Nat → Nat} : ∀ {k : Nat}, (∀ i, i < k → f i = g i) → ts_p f k = ts_p g k
  | 0, _ => rfl
  | k + 1, h => by rw [ts_p, ts_p, ts_p_cong (fun i hi => h i (by omega)), h k (by omega)]
theorem ts_p_bd {f : Nat → Nat} : ∀ {k : Nat}, (∀ i, i < k → 1 ≤ f i ∧ f i ≤ 9) → 1 ≤ ts_p f k ∧ ts_p f k ≤ 9 ^ k
  | 0, _ => by simp [ts_p]
  | k + 1, h => by
    obtain ⟨h1, h2⟩ := ts_p_bd (k := k) (fun i hi => h i (by omega))
    obtain ⟨h3, h4⟩ := h k (by omega)
    rw [ts_p, Nat.pow_succ]
    exact ⟨Nat.mul_le_mul h1 h3, Nat.mul_le_mul h2 h4⟩
theorem ts_9 {k : Nat} (h : k ≤ 12) : 9 ^ k ≤ 1000000000000 := Nat.le_trans (Nat.pow_le_pow_right (by decide) h) (by decide)
theorem ts_a_bd {te : Nat → Nat} {j : Nat} (h : te (2 * j) ≤ 2) : 1 ≤ ts_a te j ∧ ts_a te j ≤ 9 := by
  unfold ts_a; split <;> omega
theorem ts_b_bd {te : Nat → Nat} {j : Nat} : 1 ≤ ts_b te j ∧ ts_b te j ≤ 9 := by
  unfold ts_b; repeat' split
  all_goals omega
theorem b01 (b : Bool) : ((if b then (1 : Int32) else 0) = 0) ↔ b = false := by cases b <;> decide
theorem b01n (b : Bool) : vp_nar .boolean (if b then (1 : Int32) else 0) = nI (if b then 1 else 0) := by cases b <;> decide
theorem good_test {j : Nat} {σ τ : ax_S} (h : RR j σ τ) (x : Int32) (b : Bool) : good j mX11_test mX12_test [ax_i x, ax_i (if b then 1 else 0)] σ τ := by
  have h' := h
  obtain ⟨tl, tp, n, E, D, dry, lw, ho, L, st, ki, rf, nc, no, tc, te, a, T, H, im, I, ⟨o1, o2, o3, o4, o5, o6, o7, o8, o9, o10, o11⟩, ⟨c1, c2, c3, c4, c5, c6, c7, c8, c9⟩, ⟨m1, m2, m3, m4, m5, m6, m7, m8⟩⟩ := h'
  have hn := o2.2.1
  have htc := o8.1
  have e9 : σ.1 5 9 = nI n := c2.1
  have e23 : τ.1 0 23 = nI n := m2.1
  obtain ⟨c71, c72, c73⟩ := c7
  obtain ⟨m61, m62⟩ := m6
  by_cases g : n ≠ 0 ∧ tc < 12 ∧ ∃ k, 0 ≤ k ∧ k ≤ 2 ∧ x = nI k
  · obtain ⟨g0, g12, s, -, hs, rfl⟩ := g
    have q1 : ¬ σ.1 5 9 ≤ 0 := fun z => g0 ((hb_C e9 hn).mp z)
    have q2 : ¬ τ.1 0 23 = 0 := fun z => g0 ((hb_M e23 hn).mp z)
    have q3 : ¬ nI s < 0 := n_nn s
    have q4 : ¬ (3 : Int32) ≤ nI s := fun z => absurd ((n_le 3 s).mp z) (by omega)
    have q5 : σ.1 0 16 < (12 : Int32) := by rw [c71]; exact (n_lt tc 12).mpr g12
    have q6 : ¬ nI s < (0 : Int32) ∧ ¬ (2 : Int32) < nI s := (in_R (nI s) 0 2).mpr ⟨s, by omega, hs, rfl⟩
    have q7 : ¬ τ.1 0 50 = (12 : Int32) := by rw [m61]; exact fun z => absurd ((n_eq tc 12).mp z) (by omega)
    let te' : Nat → Nat := fun i => if i = 2 * tc then s else if i = 2 * tc + 1 then (if b then 1 else 0) else te i
    have t0 : ∀ k, k < tc → te' (2 * k) = te (2 * k) ∧ te' (2 * k + 1) = te (2 * k + 1) := fun k hk => ⟨by simp only [te']; rw [if_neg (by omega), if_neg (by omega)], by simp only [te']; rw [if_neg (by omega), if_neg (by omega)]⟩
    have t1 : te' (2 * tc) = s := if_pos rfl
    have t2 : te' (2 * tc + 1) = if b then 1 else 0 := (if_neg (by omega)).trans (if_pos rfl)
    refine ⟨nI (tc + 1), (fun u => fk (fun c i => c = 0 ∧ i = 16) u σ ∧ u.1 0 16 = nI (tc + 1) ∧ u.2 0 17 = lN (ts_p (ts_a te') (tc + 1)) ∧ u.2 0 18 = lN (ts_p (ts_b te') (tc + 1))), (fun w => fk (fun c i => c = 28 ∨ c = 29 ∨ (c = 0 ∧ i = 50)) w τ ∧ ts_M w (tc + 1) te'), ?_, ?_, ?_⟩
    · refine ax_Ct.of (lv := [some (ax_r 0), some (ax_i (nI s)), some (ax_i (if b then 1 else 0))]) (by decide +kernel) (fun ad => Nat.le_of_ble_eq_true rfl) (fun ad => rfl) ?_
      refine s_X11_test_0 (d := 59) (by omega) σ _ _ ?_ ?_ ?_ ?_ ?_ ?_ ?_ <;> intros <;> try contradiction
      · exact n_in s 3
      · exact n_in s 3
      · refine ⟨by rw [c71, nI_1], ?_, by rw [ui_same, c71, nI_1], ?_, ?_⟩
        · intro c i hci
          rw [ui_any, if_neg hci]; rfl
        · have e : (ts_p (ts_a te') (tc + 1)) = ts_p (ts_a te) tc * ts_a te' tc := by
            rw [ts_p, ts_p_cong (f := ts_a te') (g := ts_a te)]
            intro i hi; unfold ts_a; rw [(t0 i hi).1, (t0 i hi).2]
          have e2 : (if ((if b then (1 : Int32) else 0) = 0) then (Int32.toInt64 ((10 : Int32) - (List.getD ([8, 7, 6] : List Int32) (Int32.toNatClampNeg (nI s)) 0))) else (Int32.toInt64 (List.getD ([8, 7, 6] : List Int32) (Int32.toNatClampNeg (nI s)) 0))) = lN (ts_a te' tc) := by
            unfold ts_a; rw [t1, t2, n_tn s]
            obtain rfl | rfl | rfl : s = 0 ∨ s = 1 ∨ s = 2 := by omega
            all_goals (cases b <;> decide)
          show σ.2 0 17 * _ = _
          rw [c72, e2, e, lN_mul]
        · have e : (ts_p (ts_b te') (tc + 1)) = ts_p (ts_b te) tc * ts_b te' tc := by
            rw [ts_p, ts_p_cong (f := ts_b te') (g := ts_b te)]
            intro i hi; unfold ts_b; rw [(t0 i hi).1, (t0 i hi).2]
          have e2 : (if ((if b then (1 : Int32) else 0) = 0) then (Int32.toInt64 ((10 : Int32) - (List.getD ([3, 1, 5] : List Int32) (Int32.toNatClampNeg (nI s)) 0))) else (Int32.toInt64 (List.getD ([3, 1, 5] : List Int32) (Int32.toNatClampNeg (nI s)) 0))) = lN (ts_b te' tc) := by
            unfold ts_b; rw [t1, t2, n_tn s]
            obtain rfl | rfl | rfl : s = 0 ∨ s = 1 ∨ s = 2 := by omega
            all_goals (cases b <;> decide)
          show σ.2 0 18 * _ = _
          rw [c73, e2, e, lN_mul]
    · refine ax_Ct.of (lv := [some (ax_r 0), some (ax_i (nI s)), some (ax_i (if b then 1 else 0))]) (by decide +kernel) (fun ad => Nat.le_of_ble_eq_true rfl) (fun ad => rfl) ?_
      refine s_X12_test_0 (d := 59) (by omega) τ _ _ ?_ ?_ ?_ ?_ ?_ <;> intros <;> try contradiction
      · rw [m61]; exact n_in tc 12
      · rw [m61, nI_1, n_tn tc, b01n]
        refine ⟨rfl, (((fo.rfl'.ui (Or.inl rfl)).ui (Or.inr (Or.inl rfl))).ui (Or.inr (Or.inr ⟨rfl, rfl⟩)) : fo (fun c i => c = 28 ∨ c = 29 ∨ (c = 0 ∧ i = 50)) _ τ).1, ui_same _ _ _ _, fun k hk => ?_⟩
        by_cases e : k = tc
        · subst e
          rw [t1, t2]
          exact ⟨by rw [ui_cell (by omega), ui_cell (by omega), ui_same], by rw [ui_cell (by omega), ui_same]⟩
        · rw [(t0 k (by omega)).1, (t0 k (by omega)).2]
          exact ⟨by rw [ui_cell (by omega), ui_cell (by omega), ui_idx e]; exact (m62 k (by omega)).1, by rw [ui_cell (by omega), ui_idx e, ui_cell (by omega)]; exact (m62 k (by omega)).2⟩
    · rintro u w ⟨fC, u1, u2, u3⟩ ⟨fM, hw⟩
      refine ⟨tl, tp, n, E, D, dry, lw, ho, L, st, ki, rf, nc, no, tc + 1, te', a, T, H, im, I, ⟨o1, o2, o3, o4, o5, o6, o7, ⟨by omega, fun i hi => ?_⟩, o9, o10, by omega⟩, ⟨c1.to fC (by omega), c2.to fC (by omega), c3.to fC (by omega), c4.to fC (by omega), c5.to fC (by omega), c6.to fC (by omega), ⟨u1, u2, u3⟩, c8.to fC (by omega), c9.to fC (by omega)⟩, ⟨m1.to fM (by omega), m2.to fM (by omega), m3.to fM (by omega), m4.to fM (by omega), m5.to fM (by omega), hw, m7.to fM (by omega), m8.to fM (by omega)⟩⟩
      by_cases e : i = tc
      · subst e; rw [t1, t2]; exact ⟨hs, by split <;> omega⟩
      · rw [(t0 i (by omega)).1, (t0 i (by omega)).2]; exact o8.2 i (by omega)
  · have g1 : ¬ σ.1 5 9 ≤ 0 → ¬ x < 0 → ¬ (3 : Int32) ≤ x → ¬ σ.1 0 16 < (12 : Int32) := fun z1 z2 z3 z4 => by
      obtain ⟨k, hk, rfl⟩ := nI_of z2
      rw [c71] at z4
      exact g ⟨fun q => z1 ((hb_C e9 hn).mpr q), (n_lt tc 12).mp z4, k, by omega, by have : ¬ 3 ≤ k := fun q => z3 ((n_le 3 k).mpr q)
                                                                                     omega, rfl⟩
    have g2 : ¬ τ.1 0 23 = 0 → (¬ x < (0 : Int32) ∧ ¬ (2 : Int32) < x) → ¬ ¬ τ.1 0 50 = (12 : Int32) := fun z1 z2 z3 => by
      rw [m61] at z3
      exact g ⟨fun q => z1 ((hb_M e23 hn).mpr q), by have : ¬ tc = 12 := fun q => z3 (by rw [q]; rfl)
                                                     omega, (in_R x 0 2).mp z2⟩
    refine good.ask h (-1) ?_ ?_
    · refine ax_Ct.of (lv := [some (ax_r 0), some (ax_i x), some (ax_i (if b then 1 else 0))]) (by decide +kernel) (fun ad => Nat.le_of_ble_eq_true rfl) (fun ad => rfl) ?_
      exact s_X11_test_0 (d := 59) (by omega) σ _ _ (fun _ => ⟨rfl, fo.rfl'⟩) (fun _ _ => ⟨rfl, fo.rfl'⟩) (fun _ _ _ => ⟨rfl, fo.rfl'⟩) (fun z1 z2 z3 z4 => absurd z4 (g1 z1 z2 z3)) (fun z1 z2 z3 z4 => absurd z4 (g1 z1 z2 z3)) (fun z1 z2 z3 z4 => absurd z4 (g1 z1 z2 z3)) (fun _ _ _ _ => ⟨rfl, fo.rfl'⟩)
    · refine ax_Ct.of (lv := [some (ax_r 0), some (ax_i x), some (ax_i (if b then 1 else 0))]) (by decide +kernel) (fun ad => Nat.le_of_ble_eq_true rfl) (fun ad => rfl) ?_
      exact s_X12_test_0 (d := 59) (by omega) τ _ _ (fun _ => ⟨rfl, fo.rfl'⟩) (fun _ _ => ⟨rfl, fo.rfl'⟩) (fun z1 z2 z3 => absurd z3 (g2 z1 z2)) (fun z1 z2 z3 => absurd z3 (g2 z1 z2)) (fun _ _ _ => ⟨rfl, fo.rfl'⟩)
theorem good_stroke {j : Nat} {σ τ : ax_S} (h : RR j σ τ) : good j mX11_stroke mX12_stroke [] σ τ := by
  have h' := h
  obtain ⟨tl, tp, n, E, D, dry, lw, ho, L, st, ki, rf, nc, no, tc, te, a, T, H, im, I, ⟨o1, o2, o3, o4, o5, o6, o7, o8, o9, o10, o11⟩, ⟨c1, c2, c3, c4, c5, c6, c7, c8, c9⟩, ⟨m1, m2, m3, m4, m5, m6, m7, m8⟩⟩ := h'
  have hn := o2.2.1
  have htc := o8.1
  have e9 : σ.1 5 9 = nI n := c2.1
  have e23 : τ.1 0 23 = nI n := m2.1
  obtain ⟨c71, c72, c73⟩ := c7
  obtain ⟨m61, m62⟩ := m6
  have bA := ts_p_bd (f := ts_a te) (k := tc) (fun i hi => ts_a_bd (o8.2 i hi).1)
  have bB := ts_p_bd (f := ts_b te) (k := tc) (fun i _ => ts_b_bd)
  have b9 := ts_9 htc
  have hsum : ∀ A B : Nat, 1 ≤ A → A ≤ 1000000000000 → B ≤ 1000000000000 → ¬ lN A + lN B = 0 := fun A B hA hA2 hB e => by
    rw [lN_add, show (0 : Int64) = lN 0 from rfl, pk_lEQ (by omega) (by omega)] at e; omega
  have hdiv : ∀ A B : Nat, 1 ≤ A → A ≤ 1000000000000 → B ≤ 1000000000000 → (lN A * 1000000) / (lN A + lN B) = lN (A * 1000000 / (A + B)) := fun A B hA hA2 hB => by
    rw [lN_add, show (1000000 : Int64) = lN 1000000 from rfl, lN_mul, pk_lDiv (by omega) (by omega) (by omega)]
  by_cases g : n = 0
  · have g1 : ¬ ¬ σ.1 5 9 ≤ 0 := not_not_intro ((hb_C e9 hn).mpr g)
    have g2 : ¬ ¬ τ.1 0 23 = 0 := not_not_intro ((hb_M e23 hn).mpr g)
    refine good.ask h (-1) ((f_X11_stroke σ (fun z => absurd z g1) (by omega)).mono ?_) ?_
    · rintro r u ⟨rfl, rfl⟩
      exact ⟨by rw [if_pos g1], fo.rfl'⟩
    · refine ax_Ct.of (lv := [some (ax_r 0), none, none, none, none, none, none, none]) (by decide +kernel) (fun ad => Nat.le_of_ble_eq_true rfl) (fun ad => rfl) ?_
      refine s_X12_stroke_0 (d := 59) (by omega) τ ?_ ?_ <;> intros <;> try contradiction
      exact ⟨rfl, fo.rfl'⟩
  · have g1 : ¬ σ.1 5 9 ≤ 0 := fun z => g ((hb_C e9 hn).mp z)
    have g2 : ¬ τ.1 0 23 = 0 := fun z => g ((hb_M e23 hn).mp z)
    refine good.ask h (Int64.toInt32 (lN (ts_p (ts_a te) tc * 1000000 / (ts_p (ts_a te) tc + ts_p (ts_b te) tc)))) ((f_X11_stroke σ (fun _ _ => by rw [c72, c73]; exact hsum _ _ bA.1 (by omega) (by omega)) (by omega)).mono ?_) ?_
    · rintro r u ⟨rfl, rfl⟩
      refine ⟨?_, fo.rfl'⟩
      have hc : (0 : Int32) ≤ lg_cmp (lN (ts_p (ts_a te) tc) + lN (ts_p (ts_b te) tc)) (1 : Int64) := by
        have hx : ¬ (lN (ts_p (ts_a te) tc) + lN (ts_p (ts_b te) tc) < (1 : Int64)) := by
          rw [lN_add, show (1 : Int64) = lN 1 from rfl, pk_lLT (by omega) (by omega)]; omega
        unfold lg_cmp
        split
        · decide
        · rename_i z0
          rw [if_pos]
          · decide
          · rw [fa_eq64]; rw [fa_lt64] at hx; rw [gt_iff_lt, fa_lt64] at z0; omega
      rw [if_neg (not_not_intro g1), c72, c73, if_pos hc, hdiv _ _ bA.1 (by omega) (by omega)]
    · refine ax_Ct.of (lv := [some (ax_r 0), none, none, none, none, none, none, none]) (by decide +kernel) (fun ad => Nat.le_of_ble_eq_true rfl) (fun ad => rfl) ?_
      refine s_X12_stroke_0 (d := 59) (by omega) τ ?_ ?_ <;> intros <;> try contradiction
      have loop := lp_up (m := tc) (P := fun k => ax_W shM (59 + 1) mX12_stroke (fun r w => r = some (ax_i (Int64.toInt32 (lN (ts_p (ts_a te) tc * 1000000 / (ts_p (ts_a te) tc + ts_p (ts_b te) tc))))) ∧ fo scM w τ) 16 [some (ax_r 0), some (ax_l (lN (ts_p (ts_a te) k))), none, some (ax_l (lN (ts_p (ts_b te) k))), none, some (ax_i (nI k)), none, none] [] τ) ?_ ?_
      · exact loop 0 (Nat.zero_le _)
      · have g : τ.1 0 50 ≤ nI tc := by rw [m61]; exact (n_le _ _).mpr (Nat.le_refl _)
        refine s_X12_stroke_16 (by omega) τ _ _ _ ?_ ?_ ?_ ?_ ?_ <;> intros <;> try contradiction
        · exact hsum _ _ bA.1 (by omega) (by omega)
        · refine ⟨?_, fo.rfl'⟩
          rw [← hdiv _ _ bA.1 (by omega) (by omega), Int64.mul_comm]
      · intro k hk ih
        have g : ¬ τ.1 0 50 ≤ nI k := by rw [m61]; exact fun z => absurd ((n_le _ _).mp z) (by omega)
        obtain ⟨s1, s2⟩ := m62 k hk
        obtain ⟨s3, s4⟩ := o8.2 k hk
        refine s_X12_stroke_16 (by omega) τ _ _ _ ?_ ?_ ?_ ?_ ?_ <;> intros <;> try contradiction
        · exact n_in k 12
        · exact n_in k 12
        · rw [n_tn k, s1, s2, nI_1]
          have eA : (if nI (te (2 * k + 1)) = 0 then (Int32.toInt64 ((10 : Int32) - ((8 : Int32) - nI (te (2 * k))))) else (Int32.toInt64 ((8 : Int32) - nI (te (2 * k))))) = lN (ts_a te k) := by
            unfold ts_a
            obtain e | e : te (2 * k + 1) = 0 ∨ te (2 * k + 1) = 1 := by omega
            all_goals (obtain e' | e' | e' : te (2 * k) = 0 ∨ te (2 * k) = 1 ∨ te (2 * k) = 2 := by omega)
            all_goals (rw [e, e']; decide)
          have eB : (if nI (te (2 * k + 1)) = 0 then (Int32.toInt64 ((10 : Int32) - (if (¬ nI (te (2 * k)) = 0) then (if (¬ nI (te (2 * k)) = (1 : Int32)) then (5 : Int32) else (1 : Int32)) else (3 : Int32)))) else (Int32.toInt64 (if (¬ nI (te (2 * k)) = 0) then (if (¬ nI (te (2 * k)) = (1 : Int32)) then (5 : Int32) else (1 : Int32)) else (3 : Int32)))) = lN (ts_b te k) := by
            unfold ts_b
            obtain e | e : te (2 * k + 1) = 0 ∨ te (2 * k + 1) = 1 := by omega
            all_goals (obtain e' | e' | e' : te (2 * k) = 0 ∨ te (2 * k) = 1 ∨ te (2 * k) = 2 := by omega)
            all_goals (rw [e, e']; decide)
          rw [eA, eB, lN_mul, lN_mul]
          exact ih
theorem good_scorched {j : Nat} {σ τ : ax_S} (h : RR j σ τ) (x y z : Int32) (b : Bool) : good j mX11_scorched mX12_scorched [ax_i x, ax_i y, ax_i z, ax_i (if b then 1 else 0)] σ τ := by
  have h' := h
  obtain ⟨tl, tp, n, E, D, dry, lw, ho, L, st, ki, rf, nc, no, tc, te, a, T, H, im, I, ⟨o1, o2, o3, o4, o5, o6, o7, o8, o9, o10, o11⟩, ⟨c1, c2, c3, c4, c5, c6, c7, c8, c9⟩, ⟨m1, m2, m3, m4, m5, m6, m7, m8⟩⟩ := h'
  have hn := o2.2.1
  have hnc := o7.1
  have e9 : σ.1 5 9 = nI n := c2.1
  have e23 : τ.1 0 23 = nI n := m2.1
  obtain ⟨c61, c62⟩ := c6
  obtain ⟨m51, m52⟩ := m5
  by_cases g : (∃ k, k < n ∧ x = nI k) ∧ (∃ k, k < n ∧ z = nI k) ∧ (∃ k, 1 ≤ k ∧ k ≤ 999 ∧ y = nI k) ∧ nc < 10
  · obtain ⟨⟨p, hp, rfl⟩, ⟨q, hq, rfl⟩, ⟨v, hv1, hv, rfl⟩, hc10⟩ := g
    have a1 : ¬ nI p < 0 ∧ ¬ σ.1 5 9 ≤ nI p := by rw [e9]; exact (is_H (nI p) n).mpr ⟨p, hp, rfl⟩
    have a2 : ¬ nI q < 0 ∧ ¬ σ.1 5 9 ≤ nI q := by rw [e9]; exact (is_H (nI q) n).mpr ⟨q, hq, rfl⟩
    have a3 : ¬ nI v < (1 : Int32) ∧ ¬ (999 : Int32) < nI v := (in_R (nI v) 1 999).mpr ⟨v, hv1, hv, rfl⟩
    have a4 : σ.1 9 4 < (10 : Int32) := by rw [c61]; exact (n_lt nc 10).mpr hc10
    have b1 : ¬ nI p < (0 : Int32) ∧ ¬ τ.1 0 23 - 1 < nI p := by rw [e23]; exact (is_Hm (nI p) n).mpr ⟨p, hp, rfl⟩
    have b2 : ¬ nI q < (0 : Int32) ∧ ¬ τ.1 0 23 - 1 < nI q := by rw [e23]; exact (is_Hm (nI q) n).mpr ⟨q, hq, rfl⟩
    have b4 : ¬ τ.1 0 46 = (10 : Int32) := by rw [m51]; exact fun q => absurd ((n_eq nc 10).mp q) (by omega)
    let no' : Nat → Nat := fun i => if i = 4 * nc then p else if i = 4 * nc + 1 then v else if i = 4 * nc + 2 then q else if i = 4 * nc + 3 then (if b then 1 else 0) else no i
    have t0 : ∀ k m, k < nc → m < 4 → no' (4 * k + m) = no (4 * k + m) := fun k m hk hm => by
      simp only [no']; rw [if_neg (by omega), if_neg (by omega), if_neg (by omega), if_neg (by omega)]
    have t1 : no' (4 * nc) = p := if_pos rfl
    have t2 : no' (4 * nc + 1) = v := (if_neg (by omega)).trans (if_pos rfl)
    have t3 : no' (4 * nc + 2) = q := (if_neg (by omega)).trans ((if_neg (by omega)).trans (if_pos rfl))
    have t4 : no' (4 * nc + 3) = if b then 1 else 0 := (if_neg (by omega)).trans ((if_neg (by omega)).trans ((if_neg (by omega)).trans (if_pos rfl)))
    have t00 : ∀ k, k < nc → no' (4 * k) = no (4 * k) := fun k hk => t0 k 0 hk (by omega)
    refine ⟨nI (nc + 1), (fun u => fo (fun c i => c = 9 ∨ c = 39 ∨ c = 40 ∨ c = 41 ∨ c = 42) u σ ∧ nt_C u (nc + 1) no'), (fun w => fk (fun c i => c = 23 ∨ c = 24 ∨ c = 25 ∨ c = 26 ∨ (c = 0 ∧ i = 46)) w τ ∧ nt_M w (nc + 1) no'), ?_, ?_, ?_⟩
    · refine ax_Ct.of (lv := [some (ax_r 0), some (ax_i (nI p)), some (ax_i (nI v)), some (ax_i (nI q)), some (ax_i (if b then 1 else 0))]) (by decide +kernel) (fun ad => Nat.le_of_ble_eq_true rfl) (fun ad => rfl) ?_
      refine s_X11_scorched_0 (d := 59) (by omega) σ _ _ _ _ ?_ ?_ ?_ ?_ ?_ <;> intros <;> try contradiction
      have a5 : ¬ (10 : Int32) ≤ σ.1 9 4 := by rw [c61]; exact fun q => absurd ((n_le 10 nc).mp q) (by omega)
      refine ax_Ct.of (lv := [some (ax_r 9), some (ax_i (nI p)), some (ax_i (nI v)), some (ax_i (nI q)), some (ax_i (if b then 1 else 0))]) (by decide +kernel) (fun ad => Nat.le_of_ble_eq_true rfl) (fun ad => rfl) ?_
      refine s_X3_add_0 (d := 58) (by omega) σ _ _ _ _ ?_ ?_ ?_ <;> intros <;> try contradiction
      · rw [c61]; exact n_in nc 10
      · refine ⟨rfl, s_X11_scorched_49 (by omega) _ ?_⟩
        rw [c61, nI_1, n_tn nc]
        have eb : (if (¬ ((if b then (1 : Int32) else 0) = 0)) then (1 : Int32) else 0) = nI (if b then 1 else 0) := by cases b <;> decide
        rw [eb]
        refine ⟨by rw [ui_same], ((((fo.rfl'.ui (by omega)).ui (by omega)).ui (by omega)).ui (by omega)).ui (by omega), ui_same _ _ _ _, fun k hk => ?_⟩
        by_cases e : k = nc
        · subst e
          rw [t1, t2, t3, t4]
          refine ⟨?_, ?_, ?_, ?_⟩
          · rw [ui_cell (by omega), ui_cell (by omega), ui_cell (by omega), ui_cell (by omega), ui_same]
          · rw [ui_cell (by omega), ui_cell (by omega), ui_cell (by omega), ui_same]
          · rw [ui_cell (by omega), ui_cell (by omega), ui_same]
          · rw [ui_cell (by omega), ui_same]
        · obtain ⟨d1, d2, d3, d4⟩ := c62 k (by omega)
          rw [t00 k (by omega), t0 k 1 (by omega) (by omega), t0 k 2 (by omega) (by omega), t0 k 3 (by omega) (by omega)]
          refine ⟨?_, ?_, ?_, ?_⟩
          · rw [ui_cell (by omega), ui_cell (by omega), ui_cell (by omega), ui_cell (by omega), ui_idx e, d1]
          · rw [ui_cell (by omega), ui_cell (by omega), ui_cell (by omega), ui_idx e, ui_cell (by omega), d2]
          · rw [ui_cell (by omega), ui_cell (by omega), ui_idx e, ui_cell (by omega), ui_cell (by omega), d3]
          · rw [ui_cell (by omega), ui_idx e, ui_cell (by omega), ui_cell (by omega), ui_cell (by omega), d4]
    · refine ax_Ct.of (lv := [some (ax_r 0), some (ax_i (nI p)), some (ax_i (nI v)), some (ax_i (nI q)), some (ax_i (if b then 1 else 0))]) (by decide +kernel) (fun ad => Nat.le_of_ble_eq_true rfl) (fun ad => rfl) ?_
      refine s_X12_scorched_0 (d := 59) (by omega) τ _ _ _ _ ?_ ?_ ?_ ?_ ?_ ?_ <;> intros <;> try contradiction
      · rw [m51]; exact n_in nc 10
      · rw [m51, nI_1, n_tn nc, b01n]
        refine ⟨rfl, (((((fo.rfl'.ui (by omega)).ui (by omega)).ui (by omega)).ui (by omega)).ui (by omega) : fo (fun c i => c = 23 ∨ c = 24 ∨ c = 25 ∨ c = 26 ∨ (c = 0 ∧ i = 46)) _ τ).1, ui_same _ _ _ _, fun k hk => ?_⟩
        by_cases e : k = nc
        · subst e
          rw [t1, t2, t3, t4]
          refine ⟨?_, ?_, ?_, ?_⟩
          · rw [ui_cell (by omega), ui_cell (by omega), ui_cell (by omega), ui_cell (by omega), ui_same]
          · rw [ui_cell (by omega), ui_cell (by omega), ui_cell (by omega), ui_same]
          · rw [ui_cell (by omega), ui_cell (by omega), ui_same]
          · rw [ui_cell (by omega), ui_same]
        · obtain ⟨d1, d2, d3, d4⟩ := m52 k (by omega)
          rw [t00 k (by omega), t0 k 1 (by omega) (by omega), t0 k 2 (by omega) (by omega), t0 k 3 (by omega) (by omega)]
          refine ⟨?_, ?_, ?_, ?_⟩
          · rw [ui_cell (by omega), ui_cell (by omega), ui_cell (by omega), ui_cell (by omega), ui_idx e, d1]
          · rw [ui_cell (by omega), ui_cell (by omega), ui_cell (by omega), ui_idx e, ui_cell (by omega), d2]
          · rw [ui_cell (by omega), ui_cell (by omega), ui_idx e, ui_cell (by omega), ui_cell (by omega), d3]
          · rw [ui_cell (by omega), ui_idx e, ui_cell (by omega), ui_cell (by omega), ui_cell (by omega), d4]
    · rintro u w ⟨fC', hu⟩ ⟨fM, hw⟩
      have fC := fC'.1
      refine ⟨tl, tp, n, E, D, dry, lw, ho, L, st, ki, rf, nc + 1, no', tc, te, a, T, H, im, I, ⟨o1, o2, o3, o4, o5, o6, ⟨by omega, fun i hi => ?_⟩, o8, o9, o10, by omega⟩, ⟨c1.to fC (by omega), c2.to fC (by omega), c3.to fC (by omega), c4.to fC (by omega), c5.to fC (by omega), hu, c7.to fC ⟨by rw [fC'.2], by rw [fC'.2]⟩ (by omega), c8.to fC (by omega), c9.to fC (by omega)⟩, ⟨m1.to fM (by omega), m2.to fM (by omega), m3.to fM (by omega), m4.to fM (by omega), hw, m6.to fM (by omega), m7.to fM (by omega), m8.to fM (by omega)⟩⟩
      by_cases e : i = nc
      · subst e; rw [t1, t2, t3, t4]; exact ⟨hp, hv1, hv, hq, by split <;> omega⟩
      · rw [t00 i (by omega), t0 i 1 (by omega) (by omega), t0 i 2 (by omega) (by omega), t0 i 3 (by omega) (by omega)]; exact o7.2 i (by omega)
  · have g1 : (¬ x < 0 ∧ ¬ σ.1 5 9 ≤ x) → (¬ z < 0 ∧ ¬ σ.1 5 9 ≤ z) → (¬ y < (1 : Int32) ∧ ¬ (999 : Int32) < y) → ¬ σ.1 9 4 < (10 : Int32) := fun z1 z2 z3 z4 => by
      rw [c61] at z4; rw [e9] at z1 z2
      exact g ⟨(is_H x n).mp z1, (is_H z n).mp z2, (in_R y 1 999).mp z3, (n_lt nc 10).mp z4⟩
    have g2 : (¬ x < (0 : Int32) ∧ ¬ τ.1 0 23 - 1 < x) → (¬ z < (0 : Int32) ∧ ¬ τ.1 0 23 - 1 < z) → (¬ y < (1 : Int32) ∧ ¬ (999 : Int32) < y) → ¬ ¬ τ.1 0 46 = (10 : Int32) := fun z1 z2 z3 z4 => by
      rw [m51] at z4; rw [e23] at z1 z2
      have h10 : ¬ nc = 10 := fun q => z4 (by rw [q]; rfl)
      exact g ⟨(is_Hm x n).mp z1, (is_Hm z n).mp z2, (in_R y 1 999).mp z3, by omega⟩
    refine good.ask h (-1) ?_ ?_
    · refine ax_Ct.of (lv := [some (ax_r 0), some (ax_i x), some (ax_i y), some (ax_i z), some (ax_i (if b then 1 else 0))]) (by decide +kernel) (fun ad => Nat.le_of_ble_eq_true rfl) (fun ad => rfl) ?_
      exact s_X11_scorched_0 (d := 59) (by omega) σ _ _ _ _ (fun _ => ⟨rfl, fo.rfl'⟩) (fun _ _ => ⟨rfl, fo.rfl'⟩) (fun _ _ _ => ⟨rfl, fo.rfl'⟩) (fun z1 z2 z3 z4 => absurd z4 (g1 z1 z2 z3)) (fun _ _ _ _ => ⟨rfl, fo.rfl'⟩)
    · refine ax_Ct.of (lv := [some (ax_r 0), some (ax_i x), some (ax_i y), some (ax_i z), some (ax_i (if b then 1 else 0))]) (by decide +kernel) (fun ad => Nat.le_of_ble_eq_true rfl) (fun ad => rfl) ?_
      exact s_X12_scorched_0 (d := 59) (by omega) τ _ _ _ _ (fun _ => ⟨rfl, fo.rfl'⟩) (fun _ _ => ⟨rfl, fo.rfl'⟩) (fun _ _ _ => ⟨rfl, fo.rfl'⟩) (fun z1 z2 z3 z4 => absurd z4 (g2 z1 z2 z3)) (fun z1 z2 z3 z4 => absurd z4 (g2 z1 z2 z3)) (fun _ _ _ _ => ⟨rfl, fo.rfl'⟩)
