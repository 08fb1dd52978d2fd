/-! ===== sets of none, one or two wires, rising ===== -/
def gs (p : Nat → Bool) : Nat → Nat → List Nat
  | 0, _ => [0]
  | _ + 1, 0 => []
  | k + 1, m + 1 => gs p (k + 1) m ++ (if p m then (gs p k m).map (fun s => 2 ^ m + s) else [])
theorem gs_0 (p : Nat → Bool) (m : Nat) : gs p 0 m = [0] := by rw [gs]
theorem gs_s (p : Nat → Bool) (k m : Nat) : gs p (k + 1) (m + 1) = gs p (k + 1) m ++ (if p m then (gs p k m).map (fun s => 2 ^ m + s) else []) := by rw [gs]
theorem gs_z (p : Nat → Bool) (k : Nat) : gs p (k + 1) 0 = [] := by rw [gs]
theorem gs_1 (p : Nat → Bool) (m : Nat) : gs p 1 (m + 1) = gs p 1 m ++ (if p m then [2 ^ m] else []) := by
  rw [gs_s, gs_0]; rfl
def gsub (p : Nat → Bool) (s : Nat) : Nat → Bool
  | 0 => true
  | i + 1 => gsub p s i && (!s.testBit i || p i)
theorem gsub_iff (p : Nat → Bool) (s : Nat) : ∀ n, gsub p s n = true ↔ ∀ i, i < n → s.testBit i = true → p i = true
  | 0 => ⟨fun _ i h => absurd h (Nat.not_lt_zero i), fun _ => rfl⟩
  | n + 1 => by
    rw [gsub, Bool.and_eq_true, gsub_iff p s n, Bool.or_eq_true, Bool.not_eq_true']
    constructor
    · rintro ⟨h1, h2⟩ i hi ht
      by_cases e : i = n
      · subst e
        rcases h2 with h2 | h2
        · rw [h2] at ht; cases ht
        · exact h2
      · exact h1 i (by omega) ht
    · intro h
      refine ⟨fun i hi => h i (by omega), ?_⟩
      cases ht : s.testBit n
      · left; rfl
      · right; exact h n (by omega) ht
def gq (p : Nat → Bool) (k s : Nat) : Bool := decide (bc_n s = k) && gsub p s 17
theorem tb_eq {m s : Nat} (h : s < 2 ^ m) : (2 ^ m + s).testBit m = true := by
  rw [Nat.testBit_two_pow_add_eq, Nat.testBit_lt_two_pow h]; rfl
theorem tb_ne {m s i : Nat} (h : s < 2 ^ m) (hi : i ≠ m) : (2 ^ m + s).testBit i = s.testBit i := by
  by_cases h1 : i < m
  · exact Nat.testBit_two_pow_add_gt h1 s
  · have h2 : 2 ^ (m + 1) ≤ 2 ^ i := Nat.pow_le_pow_right (by omega) (by omega)
    have h3 : 2 ^ (m + 1) = 2 ^ m + 2 ^ m := by rw [Nat.pow_succ]; omega
    rw [Nat.testBit_lt_two_pow (show 2 ^ m + s < 2 ^ i by omega), Nat.testBit_lt_two_pow (show s < 2 ^ i by omega)]
theorem ct_more {f g : Nat → Bool} {m : Nat} (h1 : ∀ i, i ≠ m → f i = g i) (hf : f m = true) (hg : g m = false) : ∀ n, fb_ct f n = fb_ct g n + (if m < n then 1 else 0)
  | 0 => rfl
  | n + 1 => by
    rw [fb_ct_succ, fb_ct_succ, ct_more h1 hf hg n]
    by_cases e : m = n
    · subst e
      rw [hf, hg, if_neg (Nat.lt_irrefl m), if_pos (Nat.lt_succ_self m)]; rfl
    · rw [h1 n (fun z => e z.symm)]
      by_cases z : m < n
      · rw [if_pos z, if_pos (show m < n + 1 by omega)]; omega
      · rw [if_neg z, if_neg (show ¬ m < n + 1 by omega)]; omega
theorem bc_add {m s : Nat} (hm : m ≤ 16) (h : s < 2 ^ m) : bc_n (2 ^ m + s) = bc_n s + 1 := by
  unfold bc_n
  rw [ct_more (f := fun i => (2 ^ m + s).testBit i) (g := fun i => s.testBit i) (m := m) (fun i hi => tb_ne h hi) (tb_eq h) (Nat.testBit_lt_two_pow h), if_pos (by omega)]
theorem gq_add {p : Nat → Bool} {k m s : Nat} (hm : m ≤ 16) (h : s < 2 ^ m) : gq p k (2 ^ m + s) = (p m && (decide (1 ≤ k) && gq p (k - 1) s)) := by
  apply Bool.eq_iff_iff.mpr
  unfold gq
  simp only [Bool.and_eq_true, decide_eq_true_eq, gsub_iff, bc_add hm h]
  constructor
  · rintro ⟨h1, h2⟩
    exact ⟨h2 m (by omega) (tb_eq h), by omega, by omega, fun i hi ht => h2 i hi (by
      by_cases e : i = m
      · rw [e]; exact tb_eq h
      · rw [tb_ne h e]; exact ht)⟩
  · rintro ⟨h1, h2, h3, h4⟩
    refine ⟨by omega, fun i hi ht => ?_⟩
    by_cases e : i = m
    · rw [e]; exact h1
    · rw [tb_ne h e] at ht; exact h4 i hi ht
theorem gq_0 (p : Nat → Bool) (k : Nat) : gq p k 0 = decide (k = 0) := by
  have h1 : bc_n 0 = 0 := by decide
  have h2 : gsub p 0 17 = true := (gsub_iff p 0 17).mpr (fun i _ ht => by rw [Nat.zero_testBit] at ht; cases ht)
  unfold gq
  rw [h1, h2, Bool.and_true]
  by_cases e : k = 0
  · rw [e]
  · rw [decide_eq_false e, decide_eq_false (fun z => e z.symm)]
theorem gs_eq (p : Nat → Bool) : ∀ m k, m ≤ 16 → (List.range (2 ^ m)).filter (gq p k) = gs p k m
  | 0, k, _ => by
    have e : List.range (2 ^ 0) = [0] := rfl
    rw [e, List.filter_cons, gq_0]
    cases k with
    | zero => rw [gs_0]; rfl
    | succ k => rw [gs_z]; rfl
  | m + 1, k, hm => by
    have e : 2 ^ (m + 1) = 2 ^ m + 2 ^ m := by rw [Nat.pow_succ]; omega
    rw [e, List.range_add, List.filter_append, gs_eq p m k (by omega), List.filter_map]
    have e2 : (List.range (2 ^ m)).filter (gq p k ∘ fun x => 2 ^ m + x) = (List.range (2 ^ m)).filter (fun s => p m && (decide (1 ≤ k) && gq p (k - 1) s)) :=
      List.filter_congr (fun s hs => gq_add (by omega) (List.mem_range.mp hs))
    rw [e2]
    cases k with
    | zero =>
      have : (List.range (2 ^ m)).filter (fun s => p m && (decide (1 ≤ 0) && gq p (0 - 1) s)) = [] := by
        rw [List.filter_eq_nil_iff]; intro s _; simp
      rw [this, gs_0, gs_0]; rfl
    | succ k =>
      rw [gs_s]
      cases hp : p m
      · have : (List.range (2 ^ m)).filter (fun s => false && (decide (1 ≤ k + 1) && gq p (k + 1 - 1) s)) = [] := by
          rw [List.filter_eq_nil_iff]; intro s _; simp
        rw [this]; rfl
      · have : (List.range (2 ^ m)).filter (fun s => true && (decide (1 ≤ k + 1) && gq p (k + 1 - 1) s)) = (List.range (2 ^ m)).filter (gq p k) :=
          List.filter_congr (fun s _ => by simp)
        rw [this, gs_eq p m k (by omega)]; rfl
theorem gs_up {p : Nat → Bool} {m k : Nat} (h : ∀ i, m ≤ i → p i = false) : ∀ j, gs p k (m + j) = gs p k m
  | 0 => rfl
  | j + 1 => by
    cases k with
    | zero => rw [gs_0, gs_0]
    | succ k => rw [← Nat.add_assoc, gs_s, h (m + j) (by omega), gs_up h j]; simp
theorem gs_mem {p : Nat → Bool} {m k s : Nat} (hm : m ≤ 16) (h : s ∈ gs p k m) : s < 2 ^ m ∧ gq p k s = true := by
  rw [← gs_eq p m k hm, List.mem_filter, List.mem_range] at h; exact h
def tri : Nat → Nat
  | 0 => 0
  | m + 1 => tri m + m
theorem gs_2 (p : Nat → Bool) (m : Nat) : gs p 2 (m + 1) = gs p 2 m ++ (if p m then (gs p 1 m).map (fun s => 2 ^ m + s) else []) := gs_s p 1 m
theorem gs_l1 (p : Nat → Bool) : ∀ m, (gs p 1 m).length ≤ m
  | 0 => by rw [gs_z]; exact Nat.le_refl _
  | m + 1 => by
    have := gs_l1 p m
    rw [gs_1, List.length_append]
    split
    · rw [List.length_singleton]; omega
    · rw [List.length_nil]; omega
theorem gs_l2 (p : Nat → Bool) : ∀ m, (gs p 2 m).length ≤ tri m
  | 0 => by rw [gs_z]; exact Nat.le_refl _
  | m + 1 => by
    have := gs_l2 p m
    have := gs_l1 p m
    rw [gs_2, List.length_append, tri]
    split
    · rw [List.length_map]; omega
    · rw [List.length_nil]; omega
theorem tri_b : ∀ h, h < 16 → tri h + h ≤ 120 := by decide
theorem gs_l {p : Nat → Bool} {k m : Nat} (hk : k ≤ 2) (hm : m ≤ 16) : (gs p k m).length ≤ 120 := by
  obtain rfl | rfl | rfl : k = 0 ∨ k = 1 ∨ k = 2 := by omega
  · rw [gs_0]; decide
  · have := gs_l1 p m; omega
  · have h1 := gs_l2 p m
    have h2 : ∀ m, m ≤ 16 → tri m ≤ 120 := by decide
    have := h2 m hm; omega
/-- the class's row of sets -/
def hl (u : ax_S) (l : List Nat) : Prop := u.1 11 1 = nI l.length ∧ ∀ i s, l[i]? = some s → u.1 44 i = nI s
def scW (c _i : Nat) : Prop := c = 44 ∨ c = 11
theorem hl.to {S : Nat → Nat → Prop} {u v : ax_S} {l : List Nat} (h : hl v l) (hf : fk S u v) (hS : ∀ c i, S c i → ¬ (c = 44 ∨ c = 11)) : hl u l := by
  unfold hl
  rw [hf 11 1 (fun z => hS _ _ z (by omega)), hf.row 44 (fun i z => hS _ _ z (by omega))]; exact h
theorem ct_X10_add {d : Nat} (hd : 1 ≤ d) {σ : ax_S} {l : List Nat} (h : hl σ l) (hn : l.length < 120) (s : Nat) :
    ax_Ct shC d mX10_add [ax_r 11, ax_i (nI s)] (fun r u => r = none ∧ fo scW u σ ∧ hl u (l ++ [s])) σ := by
  obtain ⟨d, rfl⟩ : ∃ e, d = e + 1 := ⟨d - 1, by omega⟩
  refine ax_Ct.of (lv := [some (ax_r 11), some (ax_i (nI s))]) (by decide +kernel) (fun ad => Nat.le_of_ble_eq_true rfl) (fun ad => rfl) ?_
  have g : ¬ (Int32.ofNat 120) ≤ σ.1 11 1 := by rw [h.1]; exact fun z => absurd ((n_le 120 l.length).mp z) (by omega)
  refine s_X10_add_0 (by omega) σ _ (fun c => absurd c g) (fun _ => by rw [h.1]; exact n_in _ _) (fun _ => ⟨rfl, (fo.rfl'.ui (Or.inl rfl)).ui (Or.inr rfl), ?_⟩)
  rw [h.1, n_tn l.length, nI_1]
  refine ⟨by rw [ui_same, List.length_append]; rfl, fun i x hx => ?_⟩
  rw [ui_cell (by omega)]
  by_cases e : i = l.length
  · subst e
    rw [List.getElem?_append_right (Nat.le_refl _), Nat.sub_self] at hx
    have : s = x := Option.some.inj hx
    rw [ui_same, this]
  · have hi : i < l.length := by
      have := (List.getElem?_eq_some_iff.mp hx).1
      rw [List.length_append] at this
      have h1 : [s].length = 1 := rfl
      omega
    rw [List.getElem?_append_left hi] at hx
    rw [ui_idx e]; exact h.2 i x hx
theorem sh_or : ∀ h, h < 16 → ∀ l, l < 16 → l < h → ((1 : Int32) <<< (nI h &&& 31)) ||| ((1 : Int32) <<< (nI l &&& 31)) = nI (2 ^ h + 2 ^ l) := by decide +kernel
theorem ct_X10_gather {d : Nat} (hd : 2 ≤ d) {σ : ax_S} {a0 : Int32} {p : Nat → Bool} (hp : ∀ i, i < 16 → bt a0 i = p i) {k : Nat} (hk : k ≤ 2) :
    ax_Ct shC d mX10_gather [ax_r 11, ax_i a0, ax_i (nI k)] (fun r u => r = none ∧ fo scW u σ ∧ hl u (gs p k 16)) σ := by
  obtain ⟨d, rfl⟩ : ∃ e, d = e + 1 := ⟨d - 1, by omega⟩
  have h0 : hl (ax_ui σ 11 1 0) [] := ⟨ui_same _ _ _ _, fun i s h => by rw [List.getElem?_nil] at h; cases h⟩
  have f0 : fo scW (ax_ui σ 11 1 0) σ := fo.rfl'.ui (Or.inr rfl)
  refine ax_Ct.of (lv := [some (ax_r 11), some (ax_i a0), some (ax_i (nI k)), none, none]) (by decide +kernel) (fun ad => Nat.le_of_ble_eq_true rfl) (fun ad => rfl) ?_
  obtain rfl | rfl | rfl : k = 0 ∨ k = 1 ∨ k = 2 := by omega
  · refine s_X10_gather_0 (by omega) σ _ _ (fun c => absurd rfl c) (fun _ => ?_)
    refine (ct_X10_add (by omega) h0 (by decide) 0).mono ?_
    rintro r u ⟨rfl, u1, u2⟩
    refine ⟨rfl, s_X10_gather_14 (by omega) u ⟨rfl, u1.trans f0, ?_⟩⟩
    rw [gs_0]; exact u2
  · refine s_X10_gather_0 (by omega) σ _ _ (fun _ => ?_) (fun c => absurd (show ¬ nI 1 = 0 by decide) c)
    have loop := lp_up (m := 16) (P := fun h => ∀ u, fo scW u σ → hl u (gs p 1 h) → ax_W shC (d + 1) mX10_gather (fun r u => r = none ∧ fo scW u σ ∧ hl u (gs p 1 16)) 17 [some (ax_r 11), some (ax_i a0), some (ax_i (nI 1)), some (ax_i (nI h)), none] [] u) ?_ ?_
    · exact loop 0 (by omega) _ f0 (by rw [gs_z]; exact h0)
    · intro u hf hu
      exact s_X10_gather_17 (by omega) u _ _ _ (fun _ => ⟨rfl, hf, hu⟩) (fun c => absurd ((n_le 16 16).mpr (by omega)) c) (fun c => absurd ((n_le 16 16).mpr (by omega)) c) (fun c => absurd ((n_le 16 16).mpr (by omega)) c)
    · intro h hh ih u hf hu
      have hbit := pn_bitOf0 a0 h (by omega)
      rw [hp h hh] at hbit
      refine s_X10_gather_17 (by omega) u _ _ _ (fun c => absurd ((n_le 16 h).mp c) (by omega)) (fun _ _ c => absurd rfl c) (fun _ c _ => ?_) (fun _ c => ?_)
      · have z : p h = true := by cases q : p h
                                  · exact absurd (hbit.mpr q) c
                                  · rfl
        rw [pn_sh h (by omega)]
        have := gs_l1 p h
        refine (ct_X10_add (by omega) hu (by omega) _).mono ?_
        rintro r w ⟨rfl, w1, w2⟩
        refine ⟨rfl, s_X10_gather_46 (by omega) w _ _ _ ?_⟩
        rw [nI_1]
        refine ih w (w1.trans hf) ?_
        rw [gs_1, if_pos z]; exact w2
      · have z : p h = false := hbit.mp (Classical.not_not.mp c)
        rw [nI_1]
        refine ih u hf ?_
        rw [gs_1, if_neg (by rw [z]; decide), List.append_nil]; exact hu
  · refine s_X10_gather_0 (by omega) σ _ _ (fun _ => ?_) (fun c => absurd (show ¬ nI 2 = 0 by decide) c)
    have loop := lp_up (m := 16) (P := fun h => ∀ u, fo scW u σ → hl u (gs p 2 h) → ax_W shC (d + 1) mX10_gather (fun r u => r = none ∧ fo scW u σ ∧ hl u (gs p 2 16)) 17 [some (ax_r 11), some (ax_i a0), some (ax_i (nI 2)), some (ax_i (nI h)), none] [] u) ?_ ?_
    · exact loop 0 (by omega) _ f0 (by rw [gs_z]; exact h0)
    · intro u hf hu
      exact s_X10_gather_17 (by omega) u _ _ _ (fun _ => ⟨rfl, hf, hu⟩) (fun c => absurd ((n_le 16 16).mpr (by omega)) c) (fun c => absurd ((n_le 16 16).mpr (by omega)) c) (fun c => absurd ((n_le 16 16).mpr (by omega)) c)
    · intro h hh ih u hf hu
      have hbit := pn_bitOf0 a0 h (by omega)
      rw [hp h hh] at hbit
      refine s_X10_gather_17 (by omega) u _ _ _ (fun c => absurd ((n_le 16 h).mp c) (by omega)) (fun _ c _ => ?_) (fun _ _ c => absurd (show ¬ nI 2 = 1 by decide) c) (fun _ c => ?_)
      · have z : p h = true := by cases q : p h
                                  · exact absurd (hbit.mpr q) c
                                  · rfl
        have t1 := tri_b h hh
        have t2 := gs_l2 p h
        have inner := lp_up (m := h) (P := fun l => ∀ u, fo scW u σ → hl u (gs p 2 h ++ (gs p 1 l).map (fun s => 2 ^ h + s)) → ax_W shC (d + 1) mX10_gather (fun r u => r = none ∧ fo scW u σ ∧ hl u (gs p 2 16)) 52 [some (ax_r 11), some (ax_i a0), some (ax_i (nI 2)), some (ax_i (nI h)), some (ax_i (nI l))] [] u) ?_ ?_
        · exact inner 0 (by omega) u hf (by rw [gs_z, List.map_nil, List.append_nil]; exact hu)
        · intro u hf hu
          refine s_X10_gather_52 (by omega) u _ _ _ _ (fun _ => ?_) (fun c => absurd ((n_le h h).mpr (by omega)) c) (fun c => absurd ((n_le h h).mpr (by omega)) c)
          rw [nI_1]
          refine ih u hf ?_
          rw [gs_2, if_pos z]; exact hu
        · intro l hl2 ih2 u hf hu
          have hb2 := pn_bitOf1 a0 l (by omega)
          rw [hp l (by omega)] at hb2
          refine s_X10_gather_52 (by omega) u _ _ _ _ (fun c => absurd ((n_le h l).mp c) (by omega)) (fun _ c => ?_) (fun _ c => ?_)
          · have z2 : p l = false := by cases q : p l
                                        · rfl
                                        · exact absurd (hb2.mpr q) c
            rw [nI_1]
            refine ih2 u hf ?_
            rw [gs_1, if_neg (by rw [z2]; decide), List.append_nil]; exact hu
          · have z2 : p l = true := hb2.mp (Classical.not_not.mp c)
            rw [sh_or h hh l (by omega) hl2]
            have t3 := gs_l1 p l
            refine (ct_X10_add (by omega) hu (by rw [List.length_append, List.length_map]; omega) _).mono ?_
            rintro r w ⟨rfl, w1, w2⟩
            refine ⟨rfl, s_X10_gather_80 (by omega) w _ _ _ _ ?_⟩
            rw [nI_1]
            refine ih2 w (w1.trans hf) ?_
            rw [gs_1, if_pos z2, List.map_append, ← List.append_assoc]; exact w2
      · have z : p h = false := hbit.mp (Classical.not_not.mp c)
        rw [nI_1]
        refine ih u hf ?_
        rw [gs_2, if_neg (by rw [z]; decide), List.append_nil]; exact hu
