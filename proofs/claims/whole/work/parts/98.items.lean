/-! ===== the belt's text: items ===== -/
def kF (k : Nat) : Nat := if k = 0 then 0 else if k = 1 then 2 else 6
def kL (k : Nat) : Nat := if k = 0 then 2 else if k = 1 then 4 else 3
def kC (k : Nat) : Int32 := if k = 0 then 115 else if k = 1 then 104 else 119
def kN (k : Nat) : Nat := if k = 0 then 2 else if k = 1 then 32 else 24
theorem kA {k : Nat} (h : k < 3) : kF k + kL k ≤ 9 ∧ 2 ≤ kL k ∧ kL k ≤ 4 ∧ kN k ≤ 32 := by
  obtain rfl | rfl | rfl : k = 0 ∨ k = 1 ∨ k = 2 := by omega
  all_goals decide
theorem hrC {k : Nat} (h : k < 3) : shC[15 + k]? = some (Sum.inr (false, kN k)) := by
  obtain rfl | rfl | rfl : k = 0 ∨ k = 1 ∨ k = 2 := by omega
  all_goals rfl
theorem hrM {k : Nat} (h : k < 3) : shM[11 + k]? = some (Sum.inr (false, kN k)) := by
  obtain rfl | rfl | rfl : k = 0 ∨ k = 1 ∨ k = 2 := by omega
  all_goals rfl
def ix0 (c : Nat) : Nat := if c = 99 then 0 else if c = 100 then 1 else 2
def ix1 (c : Nat) : Nat := if c = 120 then 0 else if c = 116 then 1 else if c = 108 then 2 else if c = 107 then 3 else 4
def ix2 (c : Nat) : Nat := if c = 97 then 0 else if c = 98 then 1 else if c = 115 then 2 else 3
def ix (k : Nat) : List Nat → Nat
  | [] => kL k
  | c :: _ => if k = 0 then ix0 c else if k = 1 then ix1 c else ix2 c
theorem ix0_C {c : Nat} (hc : c ≤ 255) : ∀ i, i < 2 → ((List.getD ([99, 100, 120, 116, 108, 107, 97, 98, 115] : List Int32) (0 + i) 0) = nI c ↔ ix0 c = i) := by
  intro i hi
  obtain rfl | rfl : i = 0 ∨ i = 1 := by omega
  · refine (n_eq 99 c).trans ?_
    unfold ix0; repeat' split
    all_goals omega
  · refine (n_eq 100 c).trans ?_
    unfold ix0; repeat' split
    all_goals omega
theorem ix0_M {c : Nat} (hc : c ≤ 255) : (if (¬ nI c = (99 : Int32)) then (if (¬ nI c = (100 : Int32)) then (-1 : Int32) else (1 : Int32)) else (0 : Int32)) = (if ix0 c = 2 then -1 else nI (ix0 c)) := by
  have h0 : nI c = (99 : Int32) ↔ c = 99 := n_eq c 99
  have h1 : nI c = (100 : Int32) ↔ c = 100 := n_eq c 100
  unfold ix0
  by_cases e0 : c = 99
  · rw [if_neg (not_not_intro (h0.mpr e0)), if_pos e0]; rfl
  rw [if_pos (fun z => e0 (h0.mp z)), if_neg e0]
  by_cases e1 : c = 100
  · rw [if_neg (not_not_intro (h1.mpr e1)), if_pos e1]; rfl
  rw [if_pos (fun z => e1 (h1.mp z)), if_neg e1]
  rfl
theorem ix1_C {c : Nat} (hc : c ≤ 255) : ∀ i, i < 4 → ((List.getD ([99, 100, 120, 116, 108, 107, 97, 98, 115] : List Int32) (2 + i) 0) = nI c ↔ ix1 c = i) := by
  intro i hi
  obtain rfl | rfl | rfl | rfl : i = 0 ∨ i = 1 ∨ i = 2 ∨ i = 3 := by omega
  · refine (n_eq 120 c).trans ?_
    unfold ix1; repeat' split
    all_goals omega
  · refine (n_eq 116 c).trans ?_
    unfold ix1; repeat' split
    all_goals omega
  · refine (n_eq 108 c).trans ?_
    unfold ix1; repeat' split
    all_goals omega
  · refine (n_eq 107 c).trans ?_
    unfold ix1; repeat' split
    all_goals omega
theorem ix1_M {c : Nat} (hc : c ≤ 255) : (if (¬ nI c = (120 : Int32)) then (if (¬ nI c = (116 : Int32)) then (if (¬ nI c = (108 : Int32)) then (if (¬ nI c = (107 : Int32)) then (-1 : Int32) else (3 : Int32)) else (2 : Int32)) else (1 : Int32)) else (0 : Int32)) = (if ix1 c = 4 then -1 else nI (ix1 c)) := by
  have h0 : nI c = (120 : Int32) ↔ c = 120 := n_eq c 120
  have h1 : nI c = (116 : Int32) ↔ c = 116 := n_eq c 116
  have h2 : nI c = (108 : Int32) ↔ c = 108 := n_eq c 108
  have h3 : nI c = (107 : Int32) ↔ c = 107 := n_eq c 107
  unfold ix1
  by_cases e0 : c = 120
  · rw [if_neg (not_not_intro (h0.mpr e0)), if_pos e0]; rfl
  rw [if_pos (fun z => e0 (h0.mp z)), if_neg e0]
  by_cases e1 : c = 116
  · rw [if_neg (not_not_intro (h1.mpr e1)), if_pos e1]; rfl
  rw [if_pos (fun z => e1 (h1.mp z)), if_neg e1]
  by_cases e2 : c = 108
  · rw [if_neg (not_not_intro (h2.mpr e2)), if_pos e2]; rfl
  rw [if_pos (fun z => e2 (h2.mp z)), if_neg e2]
  by_cases e3 : c = 107
  · rw [if_neg (not_not_intro (h3.mpr e3)), if_pos e3]; rfl
  rw [if_pos (fun z => e3 (h3.mp z)), if_neg e3]
  rfl
theorem ix2_C {c : Nat} (hc : c ≤ 255) : ∀ i, i < 3 → ((List.getD ([99, 100, 120, 116, 108, 107, 97, 98, 115] : List Int32) (6 + i) 0) = nI c ↔ ix2 c = i) := by
  intro i hi
  obtain rfl | rfl | rfl : i = 0 ∨ i = 1 ∨ i = 2 := by omega
  · refine (n_eq 97 c).trans ?_
    unfold ix2; repeat' split
    all_goals omega
  · refine (n_eq 98 c).trans ?_
    unfold ix2; repeat' split
    all_goals omega
  · refine (n_eq 115 c).trans ?_
    unfold ix2; repeat' split
    all_goals omega
theorem ix2_M {c : Nat} (hc : c ≤ 255) : (if (¬ nI c = (97 : Int32)) then (if (¬ nI c = (98 : Int32)) then (if (¬ nI c = (115 : Int32)) then (-1 : Int32) else (2 : Int32)) else (1 : Int32)) else (0 : Int32)) = (if ix2 c = 3 then -1 else nI (ix2 c)) := by
  have h0 : nI c = (97 : Int32) ↔ c = 97 := n_eq c 97
  have h1 : nI c = (98 : Int32) ↔ c = 98 := n_eq c 98
  have h2 : nI c = (115 : Int32) ↔ c = 115 := n_eq c 115
  unfold ix2
  by_cases e0 : c = 97
  · rw [if_neg (not_not_intro (h0.mpr e0)), if_pos e0]; rfl
  rw [if_pos (fun z => e0 (h0.mp z)), if_neg e0]
  by_cases e1 : c = 98
  · rw [if_neg (not_not_intro (h1.mpr e1)), if_pos e1]; rfl
  rw [if_pos (fun z => e1 (h1.mp z)), if_neg e1]
  by_cases e2 : c = 115
  · rw [if_neg (not_not_intro (h2.mpr e2)), if_pos e2]; rfl
  rw [if_pos (fun z => e2 (h2.mp z)), if_neg e2]
  rfl
theorem ix_C {k : Nat} (hk : k < 3) {s : List Nat} (hs : ∀ c ∈ s, c ≤ 255) : ∀ i, i < kL k → ((List.getD ([99, 100, 120, 116, 108, 107, 97, 98, 115] : List Int32) (kF k + i) 0) = hdI s ↔ ix k s = i) := by
  obtain rfl | rfl | rfl : k = 0 ∨ k = 1 ∨ k = 2 := by omega
  · cases s with
    | nil => exact (by decide +kernel : ∀ i, i < 2 → ((List.getD ([99, 100, 120, 116, 108, 107, 97, 98, 115] : List Int32) (0 + i) 0) = (-1 : Int32) ↔ 2 = i))
    | cons c t => exact ix0_C (hs c List.mem_cons_self)
  · cases s with
    | nil => exact (by decide +kernel : ∀ i, i < 4 → ((List.getD ([99, 100, 120, 116, 108, 107, 97, 98, 115] : List Int32) (2 + i) 0) = (-1 : Int32) ↔ 4 = i))
    | cons c t => exact ix1_C (hs c List.mem_cons_self)
  · cases s with
    | nil => exact (by decide +kernel : ∀ i, i < 3 → ((List.getD ([99, 100, 120, 116, 108, 107, 97, 98, 115] : List Int32) (6 + i) 0) = (-1 : Int32) ↔ 3 = i))
    | cons c t => exact ix2_C (hs c List.mem_cons_self)
theorem ix_le {k : Nat} (hk : k < 3) (s : List Nat) : ix k s ≤ kL k := by
  obtain rfl | rfl | rfl : k = 0 ∨ k = 1 ∨ k = 2 := by omega
  · cases s with
    | nil => exact Nat.le_refl _
    | cons c t => show ix0 c ≤ 2; unfold ix0; repeat' split
                  all_goals omega
  · cases s with
    | nil => exact Nat.le_refl _
    | cons c t => show ix1 c ≤ 4; unfold ix1; repeat' split
                  all_goals omega
  · cases s with
    | nil => exact Nat.le_refl _
    | cons c t => show ix2 c ≤ 3; unfold ix2; repeat' split
                  all_goals omega
theorem ix_hd {k : Nat} (hk : k < 3) {s : List Nat} (h : ¬ ix k s = kL k) : ∃ c t, s = c :: t ∧ c ≠ 59 ∧ c ≠ 32 := by
  cases s with
  | nil => exact absurd rfl h
  | cons c t =>
    refine ⟨c, t, rfl, ?_⟩
    obtain rfl | rfl | rfl : k = 0 ∨ k = 1 ∨ k = 2 := by omega
    · have h' : ¬ ix0 c = 2 := h
      unfold ix0 at h'; repeat' split at h'
      all_goals omega
    · have h' : ¬ ix1 c = 4 := h
      unfold ix1 at h'; repeat' split at h'
      all_goals omega
    · have h' : ¬ ix2 c = 3 := h
      unfold ix2 at h'; repeat' split at h'
      all_goals omega
/-- BeltReader.itemAt -/
theorem ct_X1_itemAt {d : Nat} (hd : 2 ≤ d) {T : List Nat} (hT : tkOk T) {u : ax_S} {r : List Nat} (h : cT T u r) {k : Nat} (hk : k < 3) :
    ax_Ct shC d mX1_itemAt [ax_r 2, ax_i (nI (kF k)), ax_i (nI (kF k + kL k))] (fun y w => y = some (ax_i (if ix k (sg r) = kL k then -1 else nI (kF k + ix k (sg r)))) ∧ fo atS w u ∧ cT T w (sg r)) u := by
  obtain ⟨d, rfl⟩ : ∃ e, d = e + 1 := ⟨d - 1, by omega⟩
  refine ax_Ct.of (lv := [some (ax_r 2), some (ax_i (nI (kF k))), some (ax_i (nI (kF k + kL k))), none, none]) (by decide +kernel) (fun ad => Nat.le_of_ble_eq_true rfl) (fun ad => rfl) ?_
  refine s_X1_itemAt_0 (by omega) u _ _ ?_
  refine (ct_X9_sign (by omega) hT h).mono ?_
  rintro y w ⟨rfl, w1, w2⟩
  have hs : ∀ c ∈ sg r, c ≤ 255 := fun c hc => ((w2.le hT).2 c hc).2
  have hC := ix_C hk hs
  have hA := kA hk
  have hle := ix_le hk (sg r)
  refine ⟨_, rfl, s_X1_itemAt_7 (by omega) w _ _ _ ?_⟩
  have loop : ∀ f i, i + f = kL k → (∀ j, j < i → ¬ ix k (sg r) = j) → ax_W shC (d + 1) mX1_itemAt (fun y w => y = some (ax_i (if ix k (sg r) = kL k then -1 else nI (kF k + ix k (sg r)))) ∧ fo atS w u ∧ cT T w (sg r)) 11 [none, none, some (ax_i (nI (kF k + kL k))), some (ax_i (hdI (sg r))), some (ax_i (nI (kF k + i)))] [] w := by
    intro f
    induction f with
    | zero =>
      intro i hi hno
      refine s_X1_itemAt_11 (by omega) w _ _ _ (fun _ => ⟨?_, w1, w2⟩) (fun z => absurd ((n_le _ _).mpr (by omega)) z) (fun z => absurd ((n_le _ _).mpr (by omega)) z) (fun z => absurd ((n_le _ _).mpr (by omega)) z)
      have e : ix k (sg r) = kL k := by
        by_cases e : ix k (sg r) < kL k
        · exact absurd rfl (hno _ (by omega))
        · omega
      rw [if_pos e]
    | succ f ih =>
      intro i hi hno
      have g : ¬ nI (kF k + kL k) ≤ nI (kF k + i) := fun z => absurd ((n_le _ _).mp z) (by omega)
      refine s_X1_itemAt_11 (by omega) w _ _ _ (fun z => absurd z g) (fun _ => n_in _ _) (fun _ z => ?_) (fun _ z => ⟨?_, w1, w2⟩)
      · rw [n_tn (kF k + i)] at z
        rw [nI_1]
        refine ih (i + 1) (by omega) (fun j hj e => ?_)
        by_cases q : j = i
        · exact z ((hC i (by omega)).mpr (by omega))
        · exact hno j (by omega) e
      · rw [n_tn (kF k + i)] at z
        have e := (hC i (by omega)).mp (Classical.not_not.mp z)
        rw [if_neg (by omega), e]
  exact loop (kL k) 0 (by omega) (fun j hj => absurd hj (by omega))
/-- itemOf, highest, usual -/
theorem ct_X12_itemOf {d : Nat} (hd : 1 ≤ d) (σ : ax_S) {k : Nat} (hk : k < 3) {s : List Nat} (hs : ∀ c ∈ s, c ≤ 255) :
    ax_Ct shM d mX12_itemOf [ax_i (kC k), ax_i (hdI s)] (fun y w => y = some (ax_i (if ix k s = kL k then -1 else nI (ix k s))) ∧ w = σ) σ := by
  obtain ⟨d, rfl⟩ : ∃ e, d = e + 1 := ⟨d - 1, by omega⟩
  refine ax_Ct.of (lv := [some (ax_i (kC k)), some (ax_i (hdI s))]) (by decide +kernel) (fun ad => Nat.le_of_ble_eq_true rfl) (fun ad => rfl) ?_
  obtain rfl | rfl | rfl : k = 0 ∨ k = 1 ∨ k = 2 := by omega
  · refine s_X12_itemOf_0 (by omega) σ _ _ (fun z => absurd z (by decide)) (fun _ _ => ⟨?_, rfl⟩) (fun _ z => absurd (by decide) z)
    cases s with
    | nil => rfl
    | cons c t => exact congrArg (fun x => some (ax_i x)) (ix0_M (hs c List.mem_cons_self))
  · refine s_X12_itemOf_0 (by omega) σ _ _ (fun _ => ⟨?_, rfl⟩) (fun z => absurd (by decide) z) (fun z => absurd (by decide) z)
    cases s with
    | nil => rfl
    | cons c t => exact congrArg (fun x => some (ax_i x)) (ix1_M (hs c List.mem_cons_self))
  · refine s_X12_itemOf_0 (by omega) σ _ _ (fun z => absurd z (by decide)) (fun _ z => absurd z (by decide)) (fun _ _ => ⟨?_, rfl⟩)
    cases s with
    | nil => rfl
    | cons c t => exact congrArg (fun x => some (ax_i x)) (ix2_M (hs c List.mem_cons_self))
theorem ct_X12_highest {d : Nat} (hd : 1 ≤ d) (σ : ax_S) {k : Nat} (hk : k < 3) {i : Nat} (hi : i < kL k) :
    ax_Ct shM d mX12_highest [ax_i (kC k), ax_i (nI i)] (fun y w => y = some (ax_i (nI (hiB (kF k + i)))) ∧ w = σ) σ := by
  obtain ⟨d, rfl⟩ : ∃ e, d = e + 1 := ⟨d - 1, by omega⟩
  refine ax_Ct.of (lv := [some (ax_i (kC k)), some (ax_i (nI i))]) (by decide +kernel) (fun ad => Nat.le_of_ble_eq_true rfl) (fun ad => rfl) ?_
  obtain rfl | rfl | rfl : k = 0 ∨ k = 1 ∨ k = 2 := by omega
  · refine s_X12_highest_0 (by omega) σ _ _ (fun z => absurd z (by decide)) (fun _ _ => ⟨congrArg (fun x => some (ax_i x)) ?_, rfl⟩) (fun _ z => absurd (by decide) z)
    exact (by decide +kernel : ∀ i, i < 2 → (if (¬ nI i = 0) then (9 : Int32) else (99 : Int32)) = nI (hiB (0 + i))) i hi
  · refine s_X12_highest_0 (by omega) σ _ _ (fun _ => ⟨congrArg (fun x => some (ax_i x)) ?_, rfl⟩) (fun z => absurd (by decide) z) (fun z => absurd (by decide) z)
    exact (by decide +kernel : ∀ i, i < 4 → (if (¬ nI i = 0) then (if (¬ nI i = (1 : Int32)) then (if (¬ nI i = (2 : Int32)) then (3 : Int32) else (99 : Int32)) else (9 : Int32)) else (20 : Int32)) = nI (hiB (2 + i))) i hi
  · refine s_X12_highest_0 (by omega) σ _ _ (fun z => absurd z (by decide)) (fun _ z => absurd z (by decide)) (fun _ _ => ⟨congrArg (fun x => some (ax_i x)) ?_, rfl⟩)
    exact (by decide +kernel : ∀ i, i < 3 → (if (¬ nI i = (2 : Int32)) then (7 : Int32) else (9 : Int32)) = nI (hiB (6 + i))) i hi
theorem ct_X12_usual {d : Nat} (hd : 1 ≤ d) (σ : ax_S) {k : Nat} (hk : k < 3) {i : Nat} (hi : i < kL k) :
    ax_Ct shM d mX12_usual [ax_i (kC k), ax_i (nI i)] (fun y w => y = some (ax_i (nI (usB (kF k + i)))) ∧ w = σ) σ := by
  obtain ⟨d, rfl⟩ : ∃ e, d = e + 1 := ⟨d - 1, by omega⟩
  refine ax_Ct.of (lv := [some (ax_i (kC k)), some (ax_i (nI i))]) (by decide +kernel) (fun ad => Nat.le_of_ble_eq_true rfl) (fun ad => rfl) ?_
  obtain rfl | rfl | rfl : k = 0 ∨ k = 1 ∨ k = 2 := by omega
  · refine s_X12_usual_0 (by omega) σ _ _ (fun z => absurd z (by decide)) (fun _ _ => ⟨congrArg (fun x => some (ax_i x)) ?_, rfl⟩) (fun _ z => absurd (by decide) z)
    exact (by decide +kernel : ∀ i, i < 2 → (if (¬ nI i = 0) then (0 : Int32) else (20 : Int32)) = nI (usB (0 + i))) i hi
  · refine s_X12_usual_0 (by omega) σ _ _ (fun _ => ⟨congrArg (fun x => some (ax_i x)) ?_, rfl⟩) (fun z => absurd (by decide) z) (fun z => absurd (by decide) z)
    exact (by decide +kernel : ∀ i, i < 4 → (if (¬ nI i = (1 : Int32)) then (if (¬ nI i = (2 : Int32)) then (0 : Int32) else (20 : Int32)) else (3 : Int32)) = nI (usB (2 + i))) i hi
  · refine s_X12_usual_0 (by omega) σ _ _ (fun z => absurd z (by decide)) (fun _ z => absurd z (by decide)) (fun _ _ => ⟨congrArg (fun x => some (ax_i x)) ?_, rfl⟩)
    exact (by decide +kernel : ∀ i, i < 3 → (if (¬ (¬ nI i = (1 : Int32))) then (1 : Int32) else 0) = nI (usB (6 + i))) i hi
theorem lowK : ∀ k, k < 3 → ∀ i, i < kL k → (if ((¬ (¬ kC k = (104 : Int32))) ∧ ((nI i = (1 : Int32)) ∨ (¬ (¬ nI i = (2 : Int32))))) then (1 : Int32) else 0) = nI (loB (kF k + i)) := by decide +kernel
def pcn (m : Nat) : Nat := m % 2 + m / 2 % 2 + m / 4 % 2 + m / 8 % 2
theorem tbA : ∀ k, k < 3 → ∀ m, m < 2 ^ kL k → ∀ i, i < kL k →
    ((((nI (m * 2 ^ kF k) >>> (nI (kF k + i) &&& 31)) &&& (1 : Int32)) = (1 : Int32)) ↔ m.testBit i = true) ∧ (nI (m * 2 ^ kF k) ||| ((1 : Int32) <<< (nI (kF k + i) &&& 31))) = nI ((m ||| 2 ^ i) * 2 ^ kF k) := by decide +kernel
theorem tbB : ∀ k, k < 3 → ∀ m, m < 2 ^ kL k → ∀ i, i < kL k →
    ((((nI m >>> (nI i &&& 31)) &&& (1 : Int32)) = (1 : Int32)) ↔ m.testBit i = true) ∧ (nI m ||| ((1 : Int32) <<< (nI i &&& 31))) = nI (m ||| 2 ^ i) := by decide +kernel
theorem tbC1 : ∀ k, k < 3 → ∀ m, m < 2 ^ kL k → pcn m ≤ kL k := by decide +kernel
theorem tbC2 : ∀ k, k < 3 → ∀ m, m < 2 ^ kL k → ∀ i, i < kL k → (m.testBit i = true ∨ ((m ||| 2 ^ i) < 2 ^ kL k ∧ pcn (m ||| 2 ^ i) = pcn m + 1 ∧ pcn m + 1 ≤ kL k)) := by decide +kernel
theorem usK : ∀ k, k < 3 → ∀ i, i < kL k → loB (kF k + i) ≤ usB (kF k + i) ∧ usB (kF k + i) ≤ hiB (kF k + i) := by decide +kernel
