/-! ===== laws as lists: what they are worth ===== -/
abbrev zI (x : Int) : Int32 := Int32.ofInt x
abbrev zL (x : Int) : Int64 := Int64.ofInt x
theorem zI_toInt {x : Int} (h1 : -2147483648 ≤ x) (h2 : x < 2147483648) : (zI x).toInt = x := fb_ofI h1 h2
theorem zL_toInt {x : Int} (h1 : -9223372036854775808 ≤ x) (h2 : x < 9223372036854775808) : (zL x).toInt = x := by
  rw [Int64.toInt_ofInt]; exact fb_bmodL h1 h2
theorem zI_L {x : Int} (h1 : -2147483648 ≤ x) (h2 : x < 2147483648) : (zI x).toInt64 = zL x := by
  apply Int64.toInt_inj.mp
  rw [Int32.toInt_toInt64, zI_toInt h1 h2, zL_toInt (by omega) (by omega)]
theorem zI_nat (k : Nat) : zI (k : Int) = nI k := Int32.ofInt_eq_ofNat
theorem zI_eq {a b : Int} (ha : -1000000 ≤ a ∧ a ≤ 1000000) (hb : -1000000 ≤ b ∧ b ≤ 1000000) : zI a = zI b ↔ a = b := by
  constructor
  · intro h
    have := congrArg Int32.toInt h
    rwa [zI_toInt (by omega) (by omega), zI_toInt (by omega) (by omega)] at this
  · intro h; rw [h]
def lo_cl (x : Int) : Int := if 1000000 < x then 1000000 else if x < -1000000 then -1000000 else x
def lo_op (c : Nat) (a b : Int) : Int :=
  if c = 2 then lo_cl (a + b) else if c = 3 then lo_cl (a - b) else if c = 4 then lo_cl (a * b) else if c = 5 then (if b = 0 then 0 else lo_cl (a.tdiv b)) else
  if c = 6 then (if a = b then 1 else 0) else if c = 7 then (if a < b then 1 else 0) else if c = 8 then (if b < a then 1 else 0) else if c = 10 then (if a = 0 ∨ b = 0 then 0 else 1) else (if a = 0 ∧ b = 0 then 0 else 1)
theorem lo_cl_in (x : Int) : -1000000 ≤ lo_cl x ∧ lo_cl x ≤ 1000000 := by
  unfold lo_cl; split
  · omega
  · split <;> omega
theorem lo_op_in (c : Nat) (a b : Int) : -1000000 ≤ lo_op c a b ∧ lo_op c a b ≤ 1000000 := by
  unfold lo_op
  have h1 := lo_cl_in (a + b)
  have h2 := lo_cl_in (a - b)
  have h3 := lo_cl_in (a * b)
  have h4 := lo_cl_in (a.tdiv b)
  repeat' split
  all_goals omega
def lo_in (x : Int) : Prop := -1000000 ≤ x ∧ x ≤ 1000000
theorem lo_mul {a b : Int} (ha : lo_in a) (hb : lo_in b) : -1000000000000 ≤ a * b ∧ a * b ≤ 1000000000000 := by
  have h1 : (a * b).natAbs = a.natAbs * b.natAbs := Int.natAbs_mul a b
  have h2 : a.natAbs * b.natAbs ≤ 1000000 * 1000000 := Nat.mul_le_mul (by unfold lo_in at ha; omega) (by unfold lo_in at hb; omega)
  omega
theorem lo_div {a : Int} (b : Int) (ha : lo_in a) : lo_in (a.tdiv b) := by
  have h1 : (a.tdiv b).natAbs = a.natAbs / b.natAbs := Int.natAbs_tdiv a b
  have h2 : a.natAbs / b.natAbs ≤ a.natAbs := Nat.div_le_self _ _
  unfold lo_in at ha ⊢; omega
theorem zL_cmp {a b : Int} (ha : -1000000000000 ≤ a ∧ a ≤ 1000000000000) (hb : -1000000000000 ≤ b ∧ b ≤ 1000000000000) : (zL a ≤ zL b ↔ a ≤ b) ∧ (zL a < zL b ↔ a < b) ∧ (zL a = zL b ↔ a = b) := by
  have h1 := zL_toInt (x := a) (by omega) (by omega)
  have h2 := zL_toInt (x := b) (by omega) (by omega)
  refine ⟨?_, ?_, ?_⟩
  · rw [Int64.le_iff_toInt_le, h1, h2]
  · rw [Int64.lt_iff_toInt_lt, h1, h2]
  · rw [← Int64.toInt_inj, h1, h2]
theorem zL_div {a b : Int} (ha : lo_in a) (hb : lo_in b) : zL a / zL b = zL (a.tdiv b) := by
  unfold lo_in at ha hb
  refine (Int64.ofInt_tdiv ?_ ?_ ?_ ?_).symm
  · have : (Int64.minValue).toInt = -9223372036854775808 := by decide
    omega
  · have : (Int64.maxValue).toInt = 9223372036854775807 := by decide
    omega
  · have : (Int64.minValue).toInt = -9223372036854775808 := by decide
    omega
  · have : (Int64.maxValue).toInt = 9223372036854775807 := by decide
    omega
/-- the clamp of the class -/
theorem w_join183 {d : Nat} {σ : ax_S} {Q : Option ax_V → ax_S → Prop} {x : Int} (hx : -1000000000000 ≤ x ∧ x ≤ 1000000000000) (hQ : Q (some (ax_i (zI (lo_cl x)))) σ) : ax_W shC (d + 1) mX7_join Q 183 [none, none, none, none, none, some (ax_l (zL x)), none] [] σ := by
  obtain ⟨a1, a2, a3⟩ := zL_cmp (a := x) (b := 1000000) hx (by omega)
  obtain ⟨b1, b2, b3⟩ := zL_cmp (a := -1000000) (b := x) (by omega) hx
  have e1 : (1000000 : Int64) = zL 1000000 := by decide
  have e2 : (-1000000 : Int64) = zL (-1000000) := by decide
  refine s_X7_join_183 (by omega) σ _ (fun c => ?_) (fun c => ?_)
  · rw [lg_cmp_le, e1, a1] at c
    have hv : (if ((0 : Int32) ≤ (lg_cmp (zL x) (-1000000 : Int64))) then (Int64.toInt32 (zL x)) else (-1000000 : Int32)) = zI (lo_cl x) := by
      unfold lo_cl
      by_cases h : -1000000 ≤ x
      · rw [if_pos ((lg_cmp_ge _ _).mpr (by rw [e2]; exact b1.mpr h)), if_neg (by omega), if_neg (by omega)]
        exact Int64.toInt32_ofInt
      · rw [if_neg (fun z => h (b1.mp (by rw [← e2]; exact (lg_cmp_ge _ _).mp z))), if_neg (by omega), if_pos (by omega)]
        decide
    rw [hv]; exact hQ
  · rw [lg_cmp_le, e1, a1] at c
    have hv : (1000000 : Int32) = zI (lo_cl x) := by unfold lo_cl; rw [if_pos (by omega)]; decide
    rw [hv]; exact hQ
theorem v_bounded {x : Int} (hx : -1000000000000 ≤ x ∧ x ≤ 1000000000000) : v_X12_bounded (zL x) = zI (lo_cl x) := by
  obtain ⟨a1, a2, a3⟩ := zL_cmp (a := x) (b := 1000000) hx (by omega)
  have e1 : (1000000 : Int64) = zL 1000000 := by decide
  have e2 : (-1000000 : Int64) = zL (-1000000) := by decide
  unfold v_X12_bounded lo_cl
  rw [e2, e1]
  by_cases h : x < 1000000
  · rw [if_pos (a2.mpr h)]
    obtain ⟨b1, b2, b3⟩ := zL_cmp (a := x) (b := -1000000) hx (by omega)
    by_cases h2 : x < -1000000
    · rw [if_pos (b2.mpr h2), if_neg (by omega), if_pos h2]; decide
    · rw [if_neg (fun z => h2 (b2.mp z)), if_neg (by omega), if_neg h2]; exact Int64.toInt32_ofInt
  · rw [if_neg (fun z => h (a2.mp z)), if_neg (by decide)]
    by_cases h2 : 1000000 < x
    · rw [if_pos h2]; decide
    · rw [if_neg h2, if_neg (by omega)]
      have : x = 1000000 := by omega
      rw [this]; decide
theorem ct_X7_join_2 {d : Nat} (hd : 1 ≤ d) {σ : ax_S} {a b : Int} (ha : lo_in a) (hb : lo_in b) : ax_Ct shC d mX7_join [ax_i (nI 2), ax_l (zL a), ax_l (zL b)] (fun r u => r = some (ax_i (zI (lo_op 2 a b))) ∧ u = σ) σ := by
  obtain ⟨d, rfl⟩ : ∃ e, d = e + 1 := ⟨d - 1, by omega⟩
  refine ax_Ct.of (lv := [some (ax_i (nI 2)), some (ax_l (zL a)), none, some (ax_l (zL b)), none, none, none]) (by decide +kernel) (fun ad => Nat.le_of_ble_eq_true rfl) (fun ad => rfl) ?_
  refine s_X7_join_0 (by omega) σ _ _ _ (fun _ => ?_) (fun z => absurd rfl z) (fun z _ => absurd rfl z) (fun z _ _ => absurd rfl z) (fun z _ _ => absurd rfl z) (fun z _ _ _ => absurd rfl z) (fun z _ _ _ _ => absurd rfl z) (fun z _ _ _ _ _ => absurd rfl z) (fun z _ _ _ _ _ _ => absurd rfl z) (fun z _ _ _ _ _ _ _ => absurd rfl z) (fun z _ _ _ _ _ _ _ _ => absurd rfl z)
  rw [← Int64.ofInt_add]
  exact w_join183 (by unfold lo_in at ha hb; omega) ⟨by rw [show lo_op 2 a b = lo_cl (a + b) by simp [lo_op]], rfl⟩
theorem ct_X7_join_3 {d : Nat} (hd : 1 ≤ d) {σ : ax_S} {a b : Int} (ha : lo_in a) (hb : lo_in b) : ax_Ct shC d mX7_join [ax_i (nI 3), ax_l (zL a), ax_l (zL b)] (fun r u => r = some (ax_i (zI (lo_op 3 a b))) ∧ u = σ) σ := by
  obtain ⟨d, rfl⟩ : ∃ e, d = e + 1 := ⟨d - 1, by omega⟩
  refine ax_Ct.of (lv := [some (ax_i (nI 3)), some (ax_l (zL a)), none, some (ax_l (zL b)), none, none, none]) (by decide +kernel) (fun ad => Nat.le_of_ble_eq_true rfl) (fun ad => rfl) ?_
  refine s_X7_join_0 (by omega) σ _ _ _ (fun z => absurd z (by decide)) (fun _ _ => ?_) (fun _ z => absurd rfl z) (fun _ z _ => absurd rfl z) (fun _ z _ => absurd rfl z) (fun _ z _ _ => absurd rfl z) (fun _ z _ _ _ => absurd rfl z) (fun _ z _ _ _ _ => absurd rfl z) (fun _ z _ _ _ _ _ => absurd rfl z) (fun _ z _ _ _ _ _ _ => absurd rfl z) (fun _ z _ _ _ _ _ _ _ => absurd rfl z)
  rw [← Int64.ofInt_sub]
  exact w_join183 (by unfold lo_in at ha hb; omega) ⟨by rw [show lo_op 3 a b = lo_cl (a - b) by simp [lo_op]], rfl⟩
theorem ct_X7_join_4 {d : Nat} (hd : 1 ≤ d) {σ : ax_S} {a b : Int} (ha : lo_in a) (hb : lo_in b) : ax_Ct shC d mX7_join [ax_i (nI 4), ax_l (zL a), ax_l (zL b)] (fun r u => r = some (ax_i (zI (lo_op 4 a b))) ∧ u = σ) σ := by
  obtain ⟨d, rfl⟩ : ∃ e, d = e + 1 := ⟨d - 1, by omega⟩
  refine ax_Ct.of (lv := [some (ax_i (nI 4)), some (ax_l (zL a)), none, some (ax_l (zL b)), none, none, none]) (by decide +kernel) (fun ad => Nat.le_of_ble_eq_true rfl) (fun ad => rfl) ?_
  refine s_X7_join_0 (by omega) σ _ _ _ (fun z => absurd z (by decide)) (fun _ z => absurd z (by decide)) (fun _ _ _ => ?_) (fun _ _ z => absurd rfl z) (fun _ _ z => absurd rfl z) (fun _ _ z _ => absurd rfl z) (fun _ _ z _ _ => absurd rfl z) (fun _ _ z _ _ _ => absurd rfl z) (fun _ _ z _ _ _ _ => absurd rfl z) (fun _ _ z _ _ _ _ _ => absurd rfl z) (fun _ _ z _ _ _ _ _ _ => absurd rfl z)
  rw [← Int64.ofInt_mul]
  exact w_join183 (lo_mul ha hb) ⟨by rw [show lo_op 4 a b = lo_cl (a * b) by simp [lo_op]], rfl⟩
theorem ct_X7_join_5 {d : Nat} (hd : 1 ≤ d) {σ : ax_S} {a b : Int} (ha : lo_in a) (hb : lo_in b) : ax_Ct shC d mX7_join [ax_i (nI 5), ax_l (zL a), ax_l (zL b)] (fun r u => r = some (ax_i (zI (lo_op 5 a b))) ∧ u = σ) σ := by
  obtain ⟨d, rfl⟩ : ∃ e, d = e + 1 := ⟨d - 1, by omega⟩
  refine ax_Ct.of (lv := [some (ax_i (nI 5)), some (ax_l (zL a)), none, some (ax_l (zL b)), none, none, none]) (by decide +kernel) (fun ad => Nat.le_of_ble_eq_true rfl) (fun ad => rfl) ?_
  refine s_X7_join_0 (by omega) σ _ _ _ (fun z => absurd z (by decide)) (fun _ z => absurd z (by decide)) (fun _ _ z => absurd z (by decide)) (fun _ _ _ _ z => ?_) (fun _ _ _ _ => ?_) (fun _ _ _ z => absurd rfl z) (fun _ _ _ z _ => absurd rfl z) (fun _ _ _ z _ _ => absurd rfl z) (fun _ _ _ z _ _ _ => absurd rfl z) (fun _ _ _ z _ _ _ _ => absurd rfl z) (fun _ _ _ z _ _ _ _ _ => absurd rfl z)
  · rw [lg_cmp_eq] at z; exact z
  · by_cases h0 : b = 0
    · rw [if_neg (fun z => z ((lg_cmp_eq _ _).mpr (by rw [h0]; decide)))]
      rw [show (0 : Int64) = zL 0 by decide]
      exact w_join183 (by omega) ⟨by rw [show lo_op 5 a b = lo_cl 0 by simp [lo_op, h0, lo_cl]], rfl⟩
    · rw [if_pos (fun z => h0 ((zL_cmp (a := b) (b := 0) (by unfold lo_in at hb; omega) (by omega)).2.2.mp (by rw [(lg_cmp_eq _ _).mp z]; decide)))]
      rw [zL_div ha hb]
      exact w_join183 (by have := lo_div b ha; unfold lo_in at this; omega) ⟨by rw [show lo_op 5 a b = lo_cl (a.tdiv b) by simp [lo_op, h0]], rfl⟩
theorem ct_X7_join_6 {d : Nat} (hd : 1 ≤ d) {σ : ax_S} {a b : Int} (ha : lo_in a) (hb : lo_in b) : ax_Ct shC d mX7_join [ax_i (nI 6), ax_l (zL a), ax_l (zL b)] (fun r u => r = some (ax_i (zI (lo_op 6 a b))) ∧ u = σ) σ := by
  obtain ⟨d, rfl⟩ : ∃ e, d = e + 1 := ⟨d - 1, by omega⟩
  refine ax_Ct.of (lv := [some (ax_i (nI 6)), some (ax_l (zL a)), none, some (ax_l (zL b)), none, none, none]) (by decide +kernel) (fun ad => Nat.le_of_ble_eq_true rfl) (fun ad => rfl) ?_
  refine s_X7_join_0 (by omega) σ _ _ _ (fun z => absurd z (by decide)) (fun _ z => absurd z (by decide)) (fun _ _ z => absurd z (by decide)) (fun _ _ _ z => absurd z (by decide)) (fun _ _ _ z => absurd z (by decide)) (fun _ _ _ _ _ => ?_) (fun _ _ _ _ z => absurd rfl z) (fun _ _ _ _ z _ => absurd rfl z) (fun _ _ _ _ z _ _ => absurd rfl z) (fun _ _ _ _ z _ _ _ => absurd rfl z) (fun _ _ _ _ z _ _ _ _ => absurd rfl z)
  have ha1 : -1000000000000 ≤ a ∧ a ≤ 1000000000000 := by unfold lo_in at ha; omega
  have hb1 : -1000000000000 ≤ b ∧ b ≤ 1000000000000 := by unfold lo_in at hb; omega
  have e0 : (0 : Int64) = zL 0 := by decide
  have e1 : (1 : Int64) = zL 1 := by decide
  have za := (zL_cmp (a := a) (b := 0) ha1 (by omega)).2.2
  have zb := (zL_cmp (a := b) (b := 0) hb1 (by omega)).2.2
  obtain ⟨q1, q2, q3⟩ := zL_cmp ha1 hb1
  obtain ⟨p1, p2, p3⟩ := zL_cmp hb1 ha1
  simp only [lg_cmp_eq, lg_cmp_ge, lg_cmp_le, e0, e1, za, zb, q1, q2, q3, p1, p2, p3, Classical.not_not]
  have key : ∀ y : Int64, y = zL (if a = b then 1 else 0) → ax_W shC (d + 1) mX7_join (fun r u => r = some (ax_i (zI (lo_op 6 a b))) ∧ u = σ) 183 [none, none, none, none, none, some (ax_l y), none] [] σ := by
    intro y hy
    rw [hy]
    refine w_join183 (by split <;> omega) ⟨?_, rfl⟩
    rw [show lo_op 6 a b = lo_cl (if a = b then 1 else 0) by unfold lo_op lo_cl; simp; try (split <;> simp)]
  refine key _ ?_
  by_cases h : a = b
  · simp [h]
  · simp [h]
theorem ct_X7_join_7 {d : Nat} (hd : 1 ≤ d) {σ : ax_S} {a b : Int} (ha : lo_in a) (hb : lo_in b) : ax_Ct shC d mX7_join [ax_i (nI 7), ax_l (zL a), ax_l (zL b)] (fun r u => r = some (ax_i (zI (lo_op 7 a b))) ∧ u = σ) σ := by
  obtain ⟨d, rfl⟩ : ∃ e, d = e + 1 := ⟨d - 1, by omega⟩
  refine ax_Ct.of (lv := [some (ax_i (nI 7)), some (ax_l (zL a)), none, some (ax_l (zL b)), none, none, none]) (by decide +kernel) (fun ad => Nat.le_of_ble_eq_true rfl) (fun ad => rfl) ?_
  refine s_X7_join_0 (by omega) σ _ _ _ (fun z => absurd z (by decide)) (fun _ z => absurd z (by decide)) (fun _ _ z => absurd z (by decide)) (fun _ _ _ z => absurd z (by decide)) (fun _ _ _ z => absurd z (by decide)) (fun _ _ _ _ z => absurd z (by decide)) (fun _ _ _ _ _ _ => ?_) (fun _ _ _ _ _ z => absurd rfl z) (fun _ _ _ _ _ z _ => absurd rfl z) (fun _ _ _ _ _ z _ _ => absurd rfl z) (fun _ _ _ _ _ z _ _ _ => absurd rfl z)
  have ha1 : -1000000000000 ≤ a ∧ a ≤ 1000000000000 := by unfold lo_in at ha; omega
  have hb1 : -1000000000000 ≤ b ∧ b ≤ 1000000000000 := by unfold lo_in at hb; omega
  have e0 : (0 : Int64) = zL 0 := by decide
  have e1 : (1 : Int64) = zL 1 := by decide
  have za := (zL_cmp (a := a) (b := 0) ha1 (by omega)).2.2
  have zb := (zL_cmp (a := b) (b := 0) hb1 (by omega)).2.2
  obtain ⟨q1, q2, q3⟩ := zL_cmp ha1 hb1
  obtain ⟨p1, p2, p3⟩ := zL_cmp hb1 ha1
  simp only [lg_cmp_eq, lg_cmp_ge, lg_cmp_le, e0, e1, za, zb, q1, q2, q3, p1, p2, p3, Classical.not_not]
  have key : ∀ y : Int64, y = zL (if a < b then 1 else 0) → ax_W shC (d + 1) mX7_join (fun r u => r = some (ax_i (zI (lo_op 7 a b))) ∧ u = σ) 183 [none, none, none, none, none, some (ax_l y), none] [] σ := by
    intro y hy
    rw [hy]
    refine w_join183 (by split <;> omega) ⟨?_, rfl⟩
    rw [show lo_op 7 a b = lo_cl (if a < b then 1 else 0) by unfold lo_op lo_cl; simp; try (split <;> simp)]
  refine key _ ?_
  by_cases h : a < b
  · have h3 : ¬ b ≤ a := by omega
    simp [h, h3]
  · have h3 : b ≤ a := by omega
    have h4 : ¬ a < b := h
    simp [h4, h3]
theorem ct_X7_join_8 {d : Nat} (hd : 1 ≤ d) {σ : ax_S} {a b : Int} (ha : lo_in a) (hb : lo_in b) : ax_Ct shC d mX7_join [ax_i (nI 8), ax_l (zL a), ax_l (zL b)] (fun r u => r = some (ax_i (zI (lo_op 8 a b))) ∧ u = σ) σ := by
  obtain ⟨d, rfl⟩ : ∃ e, d = e + 1 := ⟨d - 1, by omega⟩
  refine ax_Ct.of (lv := [some (ax_i (nI 8)), some (ax_l (zL a)), none, some (ax_l (zL b)), none, none, none]) (by decide +kernel) (fun ad => Nat.le_of_ble_eq_true rfl) (fun ad => rfl) ?_
  refine s_X7_join_0 (by omega) σ _ _ _ (fun z => absurd z (by decide)) (fun _ z => absurd z (by decide)) (fun _ _ z => absurd z (by decide)) (fun _ _ _ z => absurd z (by decide)) (fun _ _ _ z => absurd z (by decide)) (fun _ _ _ _ z => absurd z (by decide)) (fun _ _ _ _ _ z => absurd z (by decide)) (fun _ _ _ _ _ _ _ => ?_) (fun _ _ _ _ _ _ z => absurd rfl z) (fun _ _ _ _ _ _ z _ => absurd rfl z) (fun _ _ _ _ _ _ z _ _ => absurd rfl z)
  have ha1 : -1000000000000 ≤ a ∧ a ≤ 1000000000000 := by unfold lo_in at ha; omega
  have hb1 : -1000000000000 ≤ b ∧ b ≤ 1000000000000 := by unfold lo_in at hb; omega
  have e0 : (0 : Int64) = zL 0 := by decide
  have e1 : (1 : Int64) = zL 1 := by decide
  have za := (zL_cmp (a := a) (b := 0) ha1 (by omega)).2.2
  have zb := (zL_cmp (a := b) (b := 0) hb1 (by omega)).2.2
  obtain ⟨q1, q2, q3⟩ := zL_cmp ha1 hb1
  obtain ⟨p1, p2, p3⟩ := zL_cmp hb1 ha1
  simp only [lg_cmp_eq, lg_cmp_ge, lg_cmp_le, e0, e1, za, zb, q1, q2, q3, p1, p2, p3, Classical.not_not]
  have key : ∀ y : Int64, y = zL (if b < a then 1 else 0) → ax_W shC (d + 1) mX7_join (fun r u => r = some (ax_i (zI (lo_op 8 a b))) ∧ u = σ) 183 [none, none, none, none, none, some (ax_l y), none] [] σ := by
    intro y hy
    rw [hy]
    refine w_join183 (by split <;> omega) ⟨?_, rfl⟩
    rw [show lo_op 8 a b = lo_cl (if b < a then 1 else 0) by unfold lo_op lo_cl; simp; try (split <;> simp)]
  refine key _ ?_
  by_cases h : b < a
  · have h3 : ¬ a ≤ b := by omega
    simp [h, h3]
  · have h3 : a ≤ b := by omega
    have h4 : ¬ b < a := h
    simp [h4, h3]
theorem ct_X7_join_10 {d : Nat} (hd : 1 ≤ d) {σ : ax_S} {a b : Int} (ha : lo_in a) (hb : lo_in b) : ax_Ct shC d mX7_join [ax_i (nI 10), ax_l (zL a), ax_l (zL b)] (fun r u => r = some (ax_i (zI (lo_op 10 a b))) ∧ u = σ) σ := by
  obtain ⟨d, rfl⟩ : ∃ e, d = e + 1 := ⟨d - 1, by omega⟩
  refine ax_Ct.of (lv := [some (ax_i (nI 10)), some (ax_l (zL a)), none, some (ax_l (zL b)), none, none, none]) (by decide +kernel) (fun ad => Nat.le_of_ble_eq_true rfl) (fun ad => rfl) ?_
  refine s_X7_join_0 (by omega) σ _ _ _ (fun z => absurd z (by decide)) (fun _ z => absurd z (by decide)) (fun _ _ z => absurd z (by decide)) (fun _ _ _ z => absurd z (by decide)) (fun _ _ _ z => absurd z (by decide)) (fun _ _ _ _ z => absurd z (by decide)) (fun _ _ _ _ _ z => absurd z (by decide)) (fun _ _ _ _ _ _ z => absurd z (by decide)) (fun _ _ _ _ _ _ _ z => absurd z (by decide)) (fun _ _ _ _ _ _ _ _ _ => ?_) (fun _ _ _ _ _ _ _ _ z => absurd rfl z)
  have ha1 : -1000000000000 ≤ a ∧ a ≤ 1000000000000 := by unfold lo_in at ha; omega
  have hb1 : -1000000000000 ≤ b ∧ b ≤ 1000000000000 := by unfold lo_in at hb; omega
  have e0 : (0 : Int64) = zL 0 := by decide
  have e1 : (1 : Int64) = zL 1 := by decide
  have za := (zL_cmp (a := a) (b := 0) ha1 (by omega)).2.2
  have zb := (zL_cmp (a := b) (b := 0) hb1 (by omega)).2.2
  obtain ⟨q1, q2, q3⟩ := zL_cmp ha1 hb1
  obtain ⟨p1, p2, p3⟩ := zL_cmp hb1 ha1
  simp only [lg_cmp_eq, lg_cmp_ge, lg_cmp_le, e0, e1, za, zb, q1, q2, q3, p1, p2, p3, Classical.not_not]
  have key : ∀ y : Int64, y = zL (if a = 0 ∨ b = 0 then 0 else 1) → ax_W shC (d + 1) mX7_join (fun r u => r = some (ax_i (zI (lo_op 10 a b))) ∧ u = σ) 183 [none, none, none, none, none, some (ax_l y), none] [] σ := by
    intro y hy
    rw [hy]
    refine w_join183 (by split <;> omega) ⟨?_, rfl⟩
    rw [show lo_op 10 a b = lo_cl (if a = 0 ∨ b = 0 then 0 else 1) by unfold lo_op lo_cl; simp; try (split <;> simp)]
  refine key _ ?_
  by_cases h : a = 0 <;> by_cases h2 : b = 0
  all_goals simp [h, h2]
theorem ct_X7_join_11 {d : Nat} (hd : 1 ≤ d) {σ : ax_S} {a b : Int} (ha : lo_in a) (hb : lo_in b) : ax_Ct shC d mX7_join [ax_i (nI 11), ax_l (zL a), ax_l (zL b)] (fun r u => r = some (ax_i (zI (lo_op 11 a b))) ∧ u = σ) σ := by
  obtain ⟨d, rfl⟩ : ∃ e, d = e + 1 := ⟨d - 1, by omega⟩
  refine ax_Ct.of (lv := [some (ax_i (nI 11)), some (ax_l (zL a)), none, some (ax_l (zL b)), none, none, none]) (by decide +kernel) (fun ad => Nat.le_of_ble_eq_true rfl) (fun ad => rfl) ?_
  refine s_X7_join_0 (by omega) σ _ _ _ (fun z => absurd z (by decide)) (fun _ z => absurd z (by decide)) (fun _ _ z => absurd z (by decide)) (fun _ _ _ z => absurd z (by decide)) (fun _ _ _ z => absurd z (by decide)) (fun _ _ _ _ z => absurd z (by decide)) (fun _ _ _ _ _ z => absurd z (by decide)) (fun _ _ _ _ _ _ z => absurd z (by decide)) (fun _ _ _ _ _ _ _ z => absurd z (by decide)) (fun _ _ _ _ _ _ _ _ z => absurd z (by decide)) (fun _ _ _ _ _ _ _ _ _ => ?_)
  have ha1 : -1000000000000 ≤ a ∧ a ≤ 1000000000000 := by unfold lo_in at ha; omega
  have hb1 : -1000000000000 ≤ b ∧ b ≤ 1000000000000 := by unfold lo_in at hb; omega
  have e0 : (0 : Int64) = zL 0 := by decide
  have e1 : (1 : Int64) = zL 1 := by decide
  have za := (zL_cmp (a := a) (b := 0) ha1 (by omega)).2.2
  have zb := (zL_cmp (a := b) (b := 0) hb1 (by omega)).2.2
  obtain ⟨q1, q2, q3⟩ := zL_cmp ha1 hb1
  obtain ⟨p1, p2, p3⟩ := zL_cmp hb1 ha1
  simp only [lg_cmp_eq, lg_cmp_ge, lg_cmp_le, e0, e1, za, zb, q1, q2, q3, p1, p2, p3, Classical.not_not]
  have key : ∀ y : Int64, y = zL (if a = 0 ∧ b = 0 then 0 else 1) → ax_W shC (d + 1) mX7_join (fun r u => r = some (ax_i (zI (lo_op 11 a b))) ∧ u = σ) 183 [none, none, none, none, none, some (ax_l y), none] [] σ := by
    intro y hy
    rw [hy]
    refine w_join183 (by split <;> omega) ⟨?_, rfl⟩
    rw [show lo_op 11 a b = lo_cl (if a = 0 ∧ b = 0 then 0 else 1) by unfold lo_op lo_cl; simp; try (split <;> simp)]
  refine key _ ?_
  by_cases h : a = 0 <;> by_cases h2 : b = 0
  all_goals simp [h, h2]
theorem ct_X7_join {d : Nat} (hd : 1 ≤ d) {σ : ax_S} {c : Nat} {a b : Int} (hc : c = 2 ∨ c = 3 ∨ c = 4 ∨ c = 5 ∨ c = 6 ∨ c = 7 ∨ c = 8 ∨ c = 10 ∨ c = 11) (ha : lo_in a) (hb : lo_in b) : ax_Ct shC d mX7_join [ax_i (nI c), ax_l (zL a), ax_l (zL b)] (fun r u => r = some (ax_i (zI (lo_op c a b))) ∧ u = σ) σ := by
  rcases hc with rfl | rfl | rfl | rfl | rfl | rfl | rfl | rfl | rfl
  · exact ct_X7_join_2 hd ha hb
  · exact ct_X7_join_3 hd ha hb
  · exact ct_X7_join_4 hd ha hb
  · exact ct_X7_join_5 hd ha hb
  · exact ct_X7_join_6 hd ha hb
  · exact ct_X7_join_7 hd ha hb
  · exact ct_X7_join_8 hd ha hb
  · exact ct_X7_join_10 hd ha hb
  · exact ct_X7_join_11 hd ha hb
theorem ct_X12_worked_2 {d : Nat} (hd : 2 ≤ d) {σ : ax_S} {a b : Int} (ha : lo_in a) (hb : lo_in b) : ax_Ct shM d mX12_worked [ax_i (nI 2), ax_l (zL a), ax_l (zL b)] (fun r u => r = some (ax_i (zI (lo_op 2 a b))) ∧ u = σ) σ := by
  obtain ⟨d, rfl⟩ : ∃ e, d = e + 1 := ⟨d - 1, by omega⟩
  refine ax_Ct.of (lv := [some (ax_i (nI 2)), some (ax_l (zL a)), none, some (ax_l (zL b)), none]) (by decide +kernel) (fun ad => Nat.le_of_ble_eq_true rfl) (fun ad => rfl) ?_
  refine s_X12_worked_0 (by omega) σ _ _ _ (fun _ => ?_) (fun z => absurd rfl z) (fun z _ => absurd rfl z) (fun z _ _ => absurd rfl z) (fun z _ _ => absurd rfl z) (fun z _ _ _ => absurd rfl z) (fun z _ _ _ _ => absurd rfl z) (fun z _ _ _ _ _ => absurd rfl z) (fun z _ _ _ _ _ _ => absurd rfl z) (fun z _ _ _ _ _ _ _ => absurd rfl z) (fun z _ _ _ _ _ _ _ _ => absurd rfl z)
  rw [← Int64.ofInt_add, v_bounded (by unfold lo_in at ha hb; omega)]
  exact ⟨by rw [show lo_op 2 a b = lo_cl (a + b) by simp [lo_op]], rfl⟩
theorem ct_X12_worked_3 {d : Nat} (hd : 2 ≤ d) {σ : ax_S} {a b : Int} (ha : lo_in a) (hb : lo_in b) : ax_Ct shM d mX12_worked [ax_i (nI 3), ax_l (zL a), ax_l (zL b)] (fun r u => r = some (ax_i (zI (lo_op 3 a b))) ∧ u = σ) σ := by
  obtain ⟨d, rfl⟩ : ∃ e, d = e + 1 := ⟨d - 1, by omega⟩
  refine ax_Ct.of (lv := [some (ax_i (nI 3)), some (ax_l (zL a)), none, some (ax_l (zL b)), none]) (by decide +kernel) (fun ad => Nat.le_of_ble_eq_true rfl) (fun ad => rfl) ?_
  refine s_X12_worked_0 (by omega) σ _ _ _ (fun z => absurd z (by decide)) (fun _ _ => ?_) (fun _ z => absurd rfl z) (fun _ z _ => absurd rfl z) (fun _ z _ => absurd rfl z) (fun _ z _ _ => absurd rfl z) (fun _ z _ _ _ => absurd rfl z) (fun _ z _ _ _ _ => absurd rfl z) (fun _ z _ _ _ _ _ => absurd rfl z) (fun _ z _ _ _ _ _ _ => absurd rfl z) (fun _ z _ _ _ _ _ _ _ => absurd rfl z)
  rw [← Int64.ofInt_sub, v_bounded (by unfold lo_in at ha hb; omega)]
  exact ⟨by rw [show lo_op 3 a b = lo_cl (a - b) by simp [lo_op]], rfl⟩
theorem ct_X12_worked_4 {d : Nat} (hd : 2 ≤ d) {σ : ax_S} {a b : Int} (ha : lo_in a) (hb : lo_in b) : ax_Ct shM d mX12_worked [ax_i (nI 4), ax_l (zL a), ax_l (zL b)] (fun r u => r = some (ax_i (zI (lo_op 4 a b))) ∧ u = σ) σ := by
  obtain ⟨d, rfl⟩ : ∃ e, d = e + 1 := ⟨d - 1, by omega⟩
  refine ax_Ct.of (lv := [some (ax_i (nI 4)), some (ax_l (zL a)), none, some (ax_l (zL b)), none]) (by decide +kernel) (fun ad => Nat.le_of_ble_eq_true rfl) (fun ad => rfl) ?_
  refine s_X12_worked_0 (by omega) σ _ _ _ (fun z => absurd z (by decide)) (fun _ z => absurd z (by decide)) (fun _ _ _ => ?_) (fun _ _ z => absurd rfl z) (fun _ _ z => absurd rfl z) (fun _ _ z _ => absurd rfl z) (fun _ _ z _ _ => absurd rfl z) (fun _ _ z _ _ _ => absurd rfl z) (fun _ _ z _ _ _ _ => absurd rfl z) (fun _ _ z _ _ _ _ _ => absurd rfl z) (fun _ _ z _ _ _ _ _ _ => absurd rfl z)
  rw [← Int64.ofInt_mul, v_bounded (lo_mul ha hb)]
  exact ⟨by rw [show lo_op 4 a b = lo_cl (a * b) by simp [lo_op]], rfl⟩
theorem ct_X12_worked_5 {d : Nat} (hd : 2 ≤ d) {σ : ax_S} {a b : Int} (ha : lo_in a) (hb : lo_in b) : ax_Ct shM d mX12_worked [ax_i (nI 5), ax_l (zL a), ax_l (zL b)] (fun r u => r = some (ax_i (zI (lo_op 5 a b))) ∧ u = σ) σ := by
  obtain ⟨d, rfl⟩ : ∃ e, d = e + 1 := ⟨d - 1, by omega⟩
  refine ax_Ct.of (lv := [some (ax_i (nI 5)), some (ax_l (zL a)), none, some (ax_l (zL b)), none]) (by decide +kernel) (fun ad => Nat.le_of_ble_eq_true rfl) (fun ad => rfl) ?_
  refine s_X12_worked_0 (by omega) σ _ _ _ (fun z => absurd z (by decide)) (fun _ z => absurd z (by decide)) (fun _ _ z => absurd z (by decide)) (fun _ _ _ _ z => ?_) (fun _ _ _ _ => ?_) (fun _ _ _ z => absurd rfl z) (fun _ _ _ z _ => absurd rfl z) (fun _ _ _ z _ _ => absurd rfl z) (fun _ _ _ z _ _ _ => absurd rfl z) (fun _ _ _ z _ _ _ _ => absurd rfl z) (fun _ _ _ z _ _ _ _ _ => absurd rfl z)
  · rw [lg_cmp_eq] at z; exact z
  · by_cases h0 : b = 0
    · rw [if_neg (fun z => z ((lg_cmp_eq _ _).mpr (by rw [h0]; decide)))]
      exact ⟨by rw [show lo_op 5 a b = 0 by simp [lo_op, h0]]; rfl, rfl⟩
    · rw [if_pos (fun z => h0 ((zL_cmp (a := b) (b := 0) (by unfold lo_in at hb; omega) (by omega)).2.2.mp (by rw [(lg_cmp_eq _ _).mp z]; decide)))]
      rw [zL_div ha hb, v_bounded (by have := lo_div b ha; unfold lo_in at this; omega)]
      exact ⟨by rw [show lo_op 5 a b = lo_cl (a.tdiv b) by simp [lo_op, h0]], rfl⟩
theorem ct_X12_worked_6 {d : Nat} (hd : 2 ≤ d) {σ : ax_S} {a b : Int} (ha : lo_in a) (hb : lo_in b) : ax_Ct shM d mX12_worked [ax_i (nI 6), ax_l (zL a), ax_l (zL b)] (fun r u => r = some (ax_i (zI (lo_op 6 a b))) ∧ u = σ) σ := by
  obtain ⟨d, rfl⟩ : ∃ e, d = e + 1 := ⟨d - 1, by omega⟩
  refine ax_Ct.of (lv := [some (ax_i (nI 6)), some (ax_l (zL a)), none, some (ax_l (zL b)), none]) (by decide +kernel) (fun ad => Nat.le_of_ble_eq_true rfl) (fun ad => rfl) ?_
  refine s_X12_worked_0 (by omega) σ _ _ _ (fun z => absurd z (by decide)) (fun _ z => absurd z (by decide)) (fun _ _ z => absurd z (by decide)) (fun _ _ _ z => absurd z (by decide)) (fun _ _ _ z => absurd z (by decide)) (fun _ _ _ _ _ => ?_) (fun _ _ _ _ z => absurd rfl z) (fun _ _ _ _ z _ => absurd rfl z) (fun _ _ _ _ z _ _ => absurd rfl z) (fun _ _ _ _ z _ _ _ => absurd rfl z) (fun _ _ _ _ z _ _ _ _ => absurd rfl z)
  have ha1 : -1000000000000 ≤ a ∧ a ≤ 1000000000000 := by unfold lo_in at ha; omega
  have hb1 : -1000000000000 ≤ b ∧ b ≤ 1000000000000 := by unfold lo_in at hb; omega
  have e0 : (0 : Int64) = zL 0 := by decide
  have e1 : (1 : Int64) = zL 1 := by decide
  have za := (zL_cmp (a := a) (b := 0) ha1 (by omega)).2.2
  have zb := (zL_cmp (a := b) (b := 0) hb1 (by omega)).2.2
  obtain ⟨q1, q2, q3⟩ := zL_cmp ha1 hb1
  obtain ⟨p1, p2, p3⟩ := zL_cmp hb1 ha1
  simp only [lg_cmp_eq, lg_cmp_ge, lg_cmp_le, e0, e1, za, zb, q1, q2, q3, p1, p2, p3, Classical.not_not]
  refine ⟨?_, trivial⟩
  simp only [lo_op]
  by_cases h : a = b
  · simp [h]; try decide
  · simp [h]; try decide
theorem ct_X12_worked_7 {d : Nat} (hd : 2 ≤ d) {σ : ax_S} {a b : Int} (ha : lo_in a) (hb : lo_in b) : ax_Ct shM d mX12_worked [ax_i (nI 7), ax_l (zL a), ax_l (zL b)] (fun r u => r = some (ax_i (zI (lo_op 7 a b))) ∧ u = σ) σ := by
  obtain ⟨d, rfl⟩ : ∃ e, d = e + 1 := ⟨d - 1, by omega⟩
  refine ax_Ct.of (lv := [some (ax_i (nI 7)), some (ax_l (zL a)), none, some (ax_l (zL b)), none]) (by decide +kernel) (fun ad => Nat.le_of_ble_eq_true rfl) (fun ad => rfl) ?_
  refine s_X12_worked_0 (by omega) σ _ _ _ (fun z => absurd z (by decide)) (fun _ z => absurd z (by decide)) (fun _ _ z => absurd z (by decide)) (fun _ _ _ z => absurd z (by decide)) (fun _ _ _ z => absurd z (by decide)) (fun _ _ _ _ z => absurd z (by decide)) (fun _ _ _ _ _ _ => ?_) (fun _ _ _ _ _ z => absurd rfl z) (fun _ _ _ _ _ z _ => absurd rfl z) (fun _ _ _ _ _ z _ _ => absurd rfl z) (fun _ _ _ _ _ z _ _ _ => absurd rfl z)
  have ha1 : -1000000000000 ≤ a ∧ a ≤ 1000000000000 := by unfold lo_in at ha; omega
  have hb1 : -1000000000000 ≤ b ∧ b ≤ 1000000000000 := by unfold lo_in at hb; omega
  have e0 : (0 : Int64) = zL 0 := by decide
  have e1 : (1 : Int64) = zL 1 := by decide
  have za := (zL_cmp (a := a) (b := 0) ha1 (by omega)).2.2
  have zb := (zL_cmp (a := b) (b := 0) hb1 (by omega)).2.2
  obtain ⟨q1, q2, q3⟩ := zL_cmp ha1 hb1
  obtain ⟨p1, p2, p3⟩ := zL_cmp hb1 ha1
  simp only [lg_cmp_eq, lg_cmp_ge, lg_cmp_le, e0, e1, za, zb, q1, q2, q3, p1, p2, p3, Classical.not_not]
  refine ⟨?_, trivial⟩
  simp only [lo_op]
  by_cases h : a < b
  · have h3 : ¬ b ≤ a := by omega
    simp [h, h3]; try decide
  · have h3 : b ≤ a := by omega
    simp [h, h3]; try decide
theorem ct_X12_worked_8 {d : Nat} (hd : 2 ≤ d) {σ : ax_S} {a b : Int} (ha : lo_in a) (hb : lo_in b) : ax_Ct shM d mX12_worked [ax_i (nI 8), ax_l (zL a), ax_l (zL b)] (fun r u => r = some (ax_i (zI (lo_op 8 a b))) ∧ u = σ) σ := by
  obtain ⟨d, rfl⟩ : ∃ e, d = e + 1 := ⟨d - 1, by omega⟩
  refine ax_Ct.of (lv := [some (ax_i (nI 8)), some (ax_l (zL a)), none, some (ax_l (zL b)), none]) (by decide +kernel) (fun ad => Nat.le_of_ble_eq_true rfl) (fun ad => rfl) ?_
  refine s_X12_worked_0 (by omega) σ _ _ _ (fun z => absurd z (by decide)) (fun _ z => absurd z (by decide)) (fun _ _ z => absurd z (by decide)) (fun _ _ _ z => absurd z (by decide)) (fun _ _ _ z => absurd z (by decide)) (fun _ _ _ _ z => absurd z (by decide)) (fun _ _ _ _ _ z => absurd z (by decide)) (fun _ _ _ _ _ _ _ => ?_) (fun _ _ _ _ _ _ z => absurd rfl z) (fun _ _ _ _ _ _ z _ => absurd rfl z) (fun _ _ _ _ _ _ z _ _ => absurd rfl z)
  have ha1 : -1000000000000 ≤ a ∧ a ≤ 1000000000000 := by unfold lo_in at ha; omega
  have hb1 : -1000000000000 ≤ b ∧ b ≤ 1000000000000 := by unfold lo_in at hb; omega
  have e0 : (0 : Int64) = zL 0 := by decide
  have e1 : (1 : Int64) = zL 1 := by decide
  have za := (zL_cmp (a := a) (b := 0) ha1 (by omega)).2.2
  have zb := (zL_cmp (a := b) (b := 0) hb1 (by omega)).2.2
  obtain ⟨q1, q2, q3⟩ := zL_cmp ha1 hb1
  obtain ⟨p1, p2, p3⟩ := zL_cmp hb1 ha1
  simp only [lg_cmp_eq, lg_cmp_ge, lg_cmp_le, e0, e1, za, zb, q1, q2, q3, p1, p2, p3, Classical.not_not]
  refine ⟨?_, trivial⟩
  simp only [lo_op]
  by_cases h : b < a
  · have h3 : ¬ a ≤ b := by omega
    simp [h, h3]; try decide
  · have h3 : a ≤ b := by omega
    simp [h, h3]; try decide
theorem ct_X12_worked_10 {d : Nat} (hd : 2 ≤ d) {σ : ax_S} {a b : Int} (ha : lo_in a) (hb : lo_in b) : ax_Ct shM d mX12_worked [ax_i (nI 10), ax_l (zL a), ax_l (zL b)] (fun r u => r = some (ax_i (zI (lo_op 10 a b))) ∧ u = σ) σ := by
  obtain ⟨d, rfl⟩ : ∃ e, d = e + 1 := ⟨d - 1, by omega⟩
  refine ax_Ct.of (lv := [some (ax_i (nI 10)), some (ax_l (zL a)), none, some (ax_l (zL b)), none]) (by decide +kernel) (fun ad => Nat.le_of_ble_eq_true rfl) (fun ad => rfl) ?_
  refine s_X12_worked_0 (by omega) σ _ _ _ (fun z => absurd z (by decide)) (fun _ z => absurd z (by decide)) (fun _ _ z => absurd z (by decide)) (fun _ _ _ z => absurd z (by decide)) (fun _ _ _ z => absurd z (by decide)) (fun _ _ _ _ z => absurd z (by decide)) (fun _ _ _ _ _ z => absurd z (by decide)) (fun _ _ _ _ _ _ z => absurd z (by decide)) (fun _ _ _ _ _ _ _ z => absurd z (by decide)) (fun _ _ _ _ _ _ _ _ _ => ?_) (fun _ _ _ _ _ _ _ _ z => absurd rfl z)
  have ha1 : -1000000000000 ≤ a ∧ a ≤ 1000000000000 := by unfold lo_in at ha; omega
  have hb1 : -1000000000000 ≤ b ∧ b ≤ 1000000000000 := by unfold lo_in at hb; omega
  have e0 : (0 : Int64) = zL 0 := by decide
  have e1 : (1 : Int64) = zL 1 := by decide
  have za := (zL_cmp (a := a) (b := 0) ha1 (by omega)).2.2
  have zb := (zL_cmp (a := b) (b := 0) hb1 (by omega)).2.2
  obtain ⟨q1, q2, q3⟩ := zL_cmp ha1 hb1
  obtain ⟨p1, p2, p3⟩ := zL_cmp hb1 ha1
  simp only [lg_cmp_eq, lg_cmp_ge, lg_cmp_le, e0, e1, za, zb, q1, q2, q3, p1, p2, p3, Classical.not_not]
  refine ⟨?_, trivial⟩
  simp only [lo_op]
  by_cases h : a = 0 <;> by_cases h2 : b = 0
  all_goals (simp [h, h2]; try decide)
theorem ct_X12_worked_11 {d : Nat} (hd : 2 ≤ d) {σ : ax_S} {a b : Int} (ha : lo_in a) (hb : lo_in b) : ax_Ct shM d mX12_worked [ax_i (nI 11), ax_l (zL a), ax_l (zL b)] (fun r u => r = some (ax_i (zI (lo_op 11 a b))) ∧ u = σ) σ := by
  obtain ⟨d, rfl⟩ : ∃ e, d = e + 1 := ⟨d - 1, by omega⟩
  refine ax_Ct.of (lv := [some (ax_i (nI 11)), some (ax_l (zL a)), none, some (ax_l (zL b)), none]) (by decide +kernel) (fun ad => Nat.le_of_ble_eq_true rfl) (fun ad => rfl) ?_
  refine s_X12_worked_0 (by omega) σ _ _ _ (fun z => absurd z (by decide)) (fun _ z => absurd z (by decide)) (fun _ _ z => absurd z (by decide)) (fun _ _ _ z => absurd z (by decide)) (fun _ _ _ z => absurd z (by decide)) (fun _ _ _ _ z => absurd z (by decide)) (fun _ _ _ _ _ z => absurd z (by decide)) (fun _ _ _ _ _ _ z => absurd z (by decide)) (fun _ _ _ _ _ _ _ z => absurd z (by decide)) (fun _ _ _ _ _ _ _ _ z => absurd z (by decide)) (fun _ _ _ _ _ _ _ _ _ => ?_)
  have ha1 : -1000000000000 ≤ a ∧ a ≤ 1000000000000 := by unfold lo_in at ha; omega
  have hb1 : -1000000000000 ≤ b ∧ b ≤ 1000000000000 := by unfold lo_in at hb; omega
  have e0 : (0 : Int64) = zL 0 := by decide
  have e1 : (1 : Int64) = zL 1 := by decide
  have za := (zL_cmp (a := a) (b := 0) ha1 (by omega)).2.2
  have zb := (zL_cmp (a := b) (b := 0) hb1 (by omega)).2.2
  obtain ⟨q1, q2, q3⟩ := zL_cmp ha1 hb1
  obtain ⟨p1, p2, p3⟩ := zL_cmp hb1 ha1
  simp only [lg_cmp_eq, lg_cmp_ge, lg_cmp_le, e0, e1, za, zb, q1, q2, q3, p1, p2, p3, Classical.not_not]
  refine ⟨?_, trivial⟩
  simp only [lo_op]
  by_cases h : a = 0 <;> by_cases h2 : b = 0
  all_goals (simp [h, h2]; try decide)
theorem ct_X12_worked {d : Nat} (hd : 2 ≤ d) {σ : ax_S} {c : Nat} {a b : Int} (hc : c = 2 ∨ c = 3 ∨ c = 4 ∨ c = 5 ∨ c = 6 ∨ c = 7 ∨ c = 8 ∨ c = 10 ∨ c = 11) (ha : lo_in a) (hb : lo_in b) : ax_Ct shM d mX12_worked [ax_i (nI c), ax_l (zL a), ax_l (zL b)] (fun r u => r = some (ax_i (zI (lo_op c a b))) ∧ u = σ) σ := by
  rcases hc with rfl | rfl | rfl | rfl | rfl | rfl | rfl | rfl | rfl
  · exact ct_X12_worked_2 hd ha hb
  · exact ct_X12_worked_3 hd ha hb
  · exact ct_X12_worked_4 hd ha hb
  · exact ct_X12_worked_5 hd ha hb
  · exact ct_X12_worked_6 hd ha hb
  · exact ct_X12_worked_7 hd ha hb
  · exact ct_X12_worked_8 hd ha hb
  · exact ct_X12_worked_10 hd ha hb
  · exact ct_X12_worked_11 hd ha hb
