/-! ===== the readers: signs and numbers, both sides ===== -/
def sg : List Nat → List Nat
  | [] => []
  | c :: t => if c = 32 then sg t else c :: t
def hdI : List Nat → Int32
  | [] => -1
  | c :: _ => nI c
theorem sg_len : ∀ r : List Nat, (sg r).length ≤ r.length
  | [] => Nat.le_refl _
  | c :: t => by
    rw [sg]; split
    · have := sg_len t; rw [List.length_cons]; omega
    · exact Nat.le_refl _
theorem sg_sg : ∀ r : List Nat, sg (sg r) = sg r
  | [] => rfl
  | c :: t => by
    rw [sg]; split
    · exact sg_sg t
    · rename_i h; rw [sg, if_neg h]
theorem sg_ne {c : Nat} {t r : List Nat} (h : sg r = c :: t) : c ≠ 32 := by
  intro e
  have := sg_sg r
  rw [h, sg, if_pos e] at this
  have h1 := sg_len t
  rw [this, List.length_cons] at h1; omega
theorem hdI_eq {r : List Nat} {x : Nat} (hr : ∀ c ∈ r, c ≤ 255) (hx : x ≤ 255) : hdI r = nI x ↔ ∃ t, r = x :: t := by
  cases r with
  | nil => exact ⟨fun z => absurd z.symm (n_m1 x), fun ⟨t, z⟩ => by cases z⟩
  | cons c t =>
    have := hr c List.mem_cons_self
    constructor
    · intro z; exact ⟨t, by rw [(n_eq c x).mp z]⟩
    · rintro ⟨s, z⟩; cases z; rfl
theorem hdI_m1 {r : List Nat} (hr : ∀ c ∈ r, c ≤ 255) : hdI r = -1 ↔ r = [] := by
  cases r with
  | nil => exact ⟨fun _ => rfl, fun _ => rfl⟩
  | cons c t =>
    have := hr c List.mem_cons_self
    exact ⟨fun z => absurd z (n_m1 c), fun z => by cases z⟩
/-- where the class reads; where the reference reads -/
def cT (T : List Nat) (u : ax_S) (r : List Nat) : Prop := tkC u T ∧ ∃ pre, T = pre ++ r ∧ u.1 1 2 = nI pre.length
def mT (T : List Nat) (u : ax_S) (r : List Nat) : Prop := tkM u T ∧ ∃ pre, T = pre ++ r ∧ u.1 0 3 = nI pre.length
def atS (c i : Nat) : Prop := c = 1 ∧ i = 2
def atM (c i : Nat) : Prop := c = 0 ∧ i = 3
theorem suf_le {T pre r : List Nat} (hT : tkOk T) (h : T = pre ++ r) : pre.length + r.length = T.length ∧ T.length ≤ 240 ∧ ∀ c ∈ r, 1 ≤ c ∧ c ≤ 255 := by
  refine ⟨by rw [h, List.length_append], hT.1, fun c hc => hT.2 c ?_⟩
  rw [h]; exact List.mem_append_right _ hc
theorem cT.le {T r : List Nat} {u : ax_S} (h : cT T u r) (hT : tkOk T) : r.length ≤ T.length ∧ ∀ c ∈ r, 1 ≤ c ∧ c ≤ 255 := by
  obtain ⟨-, pre, h1, -⟩ := h
  have := suf_le hT h1
  exact ⟨by omega, this.2.2⟩
theorem mT.le {T r : List Nat} {u : ax_S} (h : mT T u r) (hT : tkOk T) : r.length ≤ T.length ∧ ∀ c ∈ r, 1 ≤ c ∧ c ≤ 255 := by
  obtain ⟨-, pre, h1, -⟩ := h
  have := suf_le hT h1
  exact ⟨by omega, this.2.2⟩
theorem cT.at {T r : List Nat} {u : ax_S} (h : cT T u r) : u.1 1 2 = nI (T.length - r.length) := by
  obtain ⟨-, pre, h1, h2⟩ := h
  rw [h2, h1, List.length_append]; congr 1; omega
theorem mT.at {T r : List Nat} {u : ax_S} (h : mT T u r) : u.1 0 3 = nI (T.length - r.length) := by
  obtain ⟨-, pre, h1, h2⟩ := h
  rw [h2, h1, List.length_append]; congr 1; omega
theorem cT.to {S : Nat → Nat → Prop} {T r : List Nat} {u w : ax_S} (h : cT T u r) (hf : fk S w u) (hS : ∀ c i, S c i → ¬ ((c = 1 ∧ (i = 1 ∨ i = 2)) ∨ c = 14)) : cT T w r := by
  obtain ⟨⟨h1, h2⟩, pre, h3, h4⟩ := h
  refine ⟨⟨by rw [hf 1 1 (fun z => hS _ _ z (by omega))]; exact h1, fun i b hb => by rw [hf 14 i (fun z => hS _ _ z (by omega))]; exact h2 i b hb⟩, pre, h3, by rw [hf 1 2 (fun z => hS _ _ z (by omega))]; exact h4⟩
theorem mT.to {S : Nat → Nat → Prop} {T r : List Nat} {u w : ax_S} (h : mT T u r) (hf : fk S w u) (hS : ∀ c i, S c i → ¬ ((c = 0 ∧ (i = 2 ∨ i = 3)) ∨ c = 1)) : mT T w r := by
  obtain ⟨⟨h1, h2⟩, pre, h3, h4⟩ := h
  refine ⟨⟨by rw [hf 0 2 (fun z => hS _ _ z (by omega))]; exact h1, fun i b hb => by rw [hf 1 i (fun z => hS _ _ z (by omega))]; exact h2 i b hb⟩, pre, h3, by rw [hf 0 3 (fun z => hS _ _ z (by omega))]; exact h4⟩
theorem cT.end_ {T : List Nat} {r : List Nat} {u : ax_S} (h : cT T u r) (hT : tkOk T) : (u.1 1 1 ≤ u.1 1 2) ↔ r = [] := by
  obtain ⟨⟨h1, h2⟩, pre, h3, h4⟩ := h
  have := suf_le hT h3
  rw [h1, h4, n_le _ _]
  constructor
  · intro z; exact List.eq_nil_of_length_eq_zero (by omega)
  · intro z; rw [z] at this; have h0 : ([] : List Nat).length = 0 := rfl
    omega
theorem mT.end_ {T : List Nat} {r : List Nat} {u : ax_S} (h : mT T u r) (hT : tkOk T) : (u.1 0 2 ≤ u.1 0 3) ↔ r = [] := by
  obtain ⟨⟨h1, h2⟩, pre, h3, h4⟩ := h
  have := suf_le hT h3
  rw [h1, h4, n_le _ _]
  constructor
  · intro z; exact List.eq_nil_of_length_eq_zero (by omega)
  · intro z; rw [z] at this; have h0 : ([] : List Nat).length = 0 := rfl
    omega
theorem cT.cons {T : List Nat} {c : Nat} {t : List Nat} {u : ax_S} (h : cT T u (c :: t)) (hT : tkOk T) : vp_in (u.1 1 2) 240 ∧ u.1 14 (Int32.toNatClampNeg (u.1 1 2)) = nI c ∧ cT T (ax_ui u 1 2 (u.1 1 2 + 1)) t ∧ c ≤ 255 := by
  obtain ⟨⟨h1, h2⟩, pre, h3, h4⟩ := h
  have hs := suf_le hT h3
  have hl : (c :: t).length = t.length + 1 := rfl
  refine ⟨by rw [h4]; exact n_in _ _, ?_, ⟨⟨by rw [ui_idx (by omega)]; exact h1, fun i b hb => by rw [ui_cell (by omega)]; exact h2 i b hb⟩, pre ++ [c], by rw [h3, List.append_assoc]; rfl, ?_⟩, (hs.2.2 c List.mem_cons_self).2⟩
  · rw [h4, n_tn _]
    refine h2 _ _ ?_
    rw [h3, List.getElem?_append_right (Nat.le_refl _), Nat.sub_self]; rfl
  · rw [ui_same, h4, nI_1, List.length_append]; rfl
theorem mT.cons {T : List Nat} {c : Nat} {t : List Nat} {u : ax_S} (h : mT T u (c :: t)) (hT : tkOk T) : vp_in (u.1 0 3) 240 ∧ u.1 1 (Int32.toNatClampNeg (u.1 0 3)) = nI c ∧ mT T (ax_ui u 0 3 (u.1 0 3 + 1)) t ∧ c ≤ 255 := by
  obtain ⟨⟨h1, h2⟩, pre, h3, h4⟩ := h
  have hs := suf_le hT h3
  have hl : (c :: t).length = t.length + 1 := rfl
  refine ⟨by rw [h4]; exact n_in _ _, ?_, ⟨⟨by rw [ui_idx (by omega)]; exact h1, fun i b hb => by rw [ui_cell (by omega)]; exact h2 i b hb⟩, pre ++ [c], by rw [h3, List.append_assoc]; rfl, ?_⟩, (hs.2.2 c List.mem_cons_self).2⟩
  · rw [h4, n_tn _]
    refine h2 _ _ ?_
    rw [h3, List.getElem?_append_right (Nat.le_refl _), Nat.sub_self]; rfl
  · rw [ui_same, h4, nI_1, List.length_append]; rfl
/-- Tape.sign -/
theorem ct_X9_sign {d : Nat} (hd : 1 ≤ d) {T : List Nat} (hT : tkOk T) {u : ax_S} {r : List Nat} (h : cT T u r) :
    ax_Ct shC d mX9_sign [ax_r 1] (fun x w => x = some (ax_i (hdI (sg r))) ∧ fo atS w u ∧ cT T w (sg r)) u := by
  obtain ⟨d, rfl⟩ : ∃ e, d = e + 1 := ⟨d - 1, by omega⟩
  refine ax_Ct.of (lv := [some (ax_r 1)]) (by decide +kernel) (fun ad => Nat.le_of_ble_eq_true rfl) (fun ad => rfl) ?_
  have go : ∀ r v, cT T v r → fo atS v u → ax_W shC (d + 1) mX9_sign (fun x w => x = some (ax_i (hdI (sg r))) ∧ fo atS w u ∧ cT T w (sg r)) 0 [some (ax_r 1)] [] v := by
    intro r
    induction r with
    | nil =>
      intro v hv hf
      have g := (hv.end_ hT).mpr rfl
      exact s_X9_sign_0 (by omega) v (fun _ z => absurd g z) (fun _ => ⟨by rw [if_pos g]; rfl, hf, hv⟩) (fun z => absurd g z) (fun z => absurd g z) (fun z => absurd g z) (fun z => absurd g z)
    | cons c t ih =>
      intro v hv hf
      have g : ¬ v.1 1 1 ≤ v.1 1 2 := fun z => by have := (hv.end_ hT).mp z; cases this
      obtain ⟨c1, c2, c3, c4⟩ := hv.cons hT
      have e32 := n_eq c 32
      refine s_X9_sign_0 (by omega) v (fun z => absurd z g) (fun z => absurd z g) (fun _ => c1) (fun _ _ _ => c1) (fun _ z => ?_) (fun _ z => ?_)
      · rw [c2] at z
        have z' : ¬ c = 32 := fun y => z (e32.mpr y)
        rw [if_neg g, c2, sg, if_neg z']
        exact ⟨rfl, hf, hv⟩
      · rw [c2] at z
        have z' : c = 32 := e32.mp (Classical.not_not.mp z)
        rw [sg, if_pos z']
        exact ih _ c3 (hf.ui ⟨rfl, rfl⟩)
  exact go r u h fo.rfl'
/-- the reference's look -/
theorem ct_X12_look {d : Nat} (hd : 2 ≤ d) {T : List Nat} (hT : tkOk T) {u : ax_S} {r : List Nat} (h : mT T u r) :
    ax_Ct shM d mX12_look [ax_r 0] (fun x w => x = some (ax_i (hdI (sg r))) ∧ fo atM w u ∧ mT T w (sg r)) u := by
  obtain ⟨d, rfl⟩ : ∃ e, d = e + 1 := ⟨d - 1, by omega⟩
  refine ax_Ct.of (lv := [some (ax_r 0)]) (by decide +kernel) (fun ad => Nat.le_of_ble_eq_true rfl) (fun ad => rfl) ?_
  have go : ∀ r v, mT T v r → fo atM v u → ax_W shM (d + 1) mX12_look (fun x w => x = some (ax_i (hdI (sg r))) ∧ fo atM w u ∧ mT T w (sg r)) 0 [some (ax_r 0)] [] v := by
    intro r
    induction r with
    | nil =>
      intro v hv hf
      have g := (hv.end_ hT).mpr rfl
      have e : (if v.1 0 2 ≤ v.1 0 3 then (-1 : Int32) else v.1 1 (Int32.toNatClampNeg (v.1 0 3))) = -1 := if_pos g
      refine s_X12_look_0 (by omega) v (fun z => absurd g z) (fun _ z => absurd g z) (fun _ => ⟨by rw [e]; rfl, hf, hv⟩) (fun z => ?_)
      rw [e] at z
      exact absurd (Classical.not_not.mp z) (by decide)
    | cons c t ih =>
      intro v hv hf
      have g : ¬ v.1 0 2 ≤ v.1 0 3 := fun z => by have := (hv.end_ hT).mp z; cases this
      obtain ⟨c1, c2, c3, c4⟩ := hv.cons hT
      have e32 := n_eq c 32
      have e : (if v.1 0 2 ≤ v.1 0 3 then (-1 : Int32) else v.1 1 (Int32.toNatClampNeg (v.1 0 3))) = nI c := by rw [if_neg g, c2]
      refine s_X12_look_0 (by omega) v (fun _ => c1) (fun _ _ => c1) (fun z => ?_) (fun z => ?_)
      · rw [e] at z ⊢
        have z' : ¬ c = 32 := fun y => z (e32.mpr y)
        rw [sg, if_neg z']
        exact ⟨rfl, hf, hv⟩
      · rw [e] at z
        have z' : c = 32 := e32.mp (Classical.not_not.mp z)
        rw [sg, if_pos z']
        exact ih _ c3 (hf.ui ⟨rfl, rfl⟩)
  exact go r u h fo.rfl'
/-- Tape.takes -/
theorem ct_X9_takes {d : Nat} (hd : 2 ≤ d) {T : List Nat} (hT : tkOk T) {u : ax_S} {r : List Nat} (h : cT T u r) {x : Nat} (hx : x ≤ 255) :
    ax_Ct shC d mX9_takes [ax_r 1, ax_i (nI x)] (fun y w => fo atS w u ∧ ((∃ t, sg r = x :: t ∧ y = some (ax_i 1) ∧ cT T w t) ∨ ((¬ ∃ t, sg r = x :: t) ∧ y = some (ax_i 0) ∧ cT T w (sg r)))) u := by
  obtain ⟨d, rfl⟩ : ∃ e, d = e + 1 := ⟨d - 1, by omega⟩
  refine ax_Ct.of (lv := [some (ax_r 1), some (ax_i (nI x))]) (by decide +kernel) (fun ad => Nat.le_of_ble_eq_true rfl) (fun ad => rfl) ?_
  refine s_X9_takes_0 (by omega) u _ ?_
  refine (ct_X9_sign (by omega) hT h).mono ?_
  rintro y w ⟨rfl, w1, w2⟩
  have key := hdI_eq (r := sg r) (x := x) (fun c hc => ((w2.le hT).2 c hc).2) hx
  refine ⟨_, rfl, s_X9_takes_4 (by omega) w _ _ (fun z => ?_) (fun z => ⟨w1, Or.inr ⟨fun q => z (key.mpr q), rfl, w2⟩⟩)⟩
  obtain ⟨t, ht⟩ := key.mp z
  rw [ht] at w2
  exact ⟨w1.ui ⟨rfl, rfl⟩, Or.inl ⟨t, ht, rfl, (w2.cons hT).2.2.1⟩⟩
/-! numbers -/
def dg (c : Nat) : Bool := decide (48 ≤ c) && decide (c ≤ 57)
def dgs : List Nat → Bool
  | [] => false
  | c :: _ => dg c
def numA : Nat → Nat → List Nat → Nat × List Nat
  | 0, v, r => (v, r)
  | f + 1, v, r => match r with
    | [] => (v, [])
    | c :: t => if dg c then numA f (10 * v + (c - 48)) t else (v, c :: t)
theorem numA_len : ∀ (f v : Nat) (r : List Nat), (numA f v r).2.length ≤ r.length
  | 0, v, r => Nat.le_refl _
  | f + 1, v, [] => Nat.le_refl _
  | f + 1, v, c :: t => by
    rw [numA]; split
    · have := numA_len f (10 * v + (c - 48)) t; rw [List.length_cons]; omega
    · exact Nat.le_refl _
theorem numA_lt {f v : Nat} {r : List Nat} (h : dgs r = true) : (numA (f + 1) v r).2.length < r.length := by
  cases r with
  | nil => cases h
  | cons c t =>
    have h' : dg c = true := h
    rw [numA, if_pos h']
    have := numA_len f (10 * v + (c - 48)) t
    rw [List.length_cons]; omega
theorem numA_b : ∀ (f v : Nat) (r : List Nat), (numA f v r).1 < (v + 1) * 10 ^ f
  | 0, v, r => by rw [numA]; show v < (v + 1) * 1; omega
  | f + 1, v, [] => Nat.lt_of_lt_of_le (Nat.lt_succ_self v) (Nat.le_mul_of_pos_right _ (Nat.pow_pos (by omega)))
  | f + 1, v, c :: t => by
    rw [numA]; split
    · rename_i hc
      have hc' : 48 ≤ c ∧ c ≤ 57 := by unfold dg at hc; rw [Bool.and_eq_true, decide_eq_true_eq, decide_eq_true_eq] at hc; exact hc
      have := numA_b f (10 * v + (c - 48)) t
      refine Nat.lt_of_lt_of_le this ?_
      rw [Nat.pow_succ, Nat.mul_comm (10 ^ f) 10, ← Nat.mul_assoc]
      exact Nat.mul_le_mul_right _ (by omega)
    · exact Nat.lt_of_lt_of_le (Nat.lt_succ_self v) (Nat.le_mul_of_pos_right _ (Nat.pow_pos (by omega)))
theorem dg_iff {c : Nat} : dg c = true ↔ 48 ≤ c ∧ c ≤ 57 := by unfold dg; rw [Bool.and_eq_true, decide_eq_true_eq, decide_eq_true_eq]
theorem n_dg {c : Nat} (hc : c ≤ 255) : (¬ nI c < (48 : Int32) ∧ ¬ (57 : Int32) < nI c) ↔ dg c = true := by
  rw [dg_iff]
  have h1 := n_lt c 48
  have h2 := n_lt 57 c
  constructor
  · rintro ⟨q1, q2⟩; exact ⟨Nat.not_lt.mp (fun z => q1 (h1.mpr z)), Nat.not_lt.mp (fun z => q2 (h2.mpr z))⟩
  · rintro ⟨q1, q2⟩; exact ⟨fun z => absurd (h1.mp z) (by omega), fun z => absurd (h2.mp z) (by omega)⟩
theorem cT.dg {T r : List Nat} {u : ax_S} (h : cT T u r) (hT : tkOk T) : ((¬ (u.1 1 1 ≤ u.1 1 2)) ∧ ((¬ (u.1 14 (Int32.toNatClampNeg (u.1 1 2)) < (48 : Int32))) ∧ (¬ ((57 : Int32) < u.1 14 (Int32.toNatClampNeg (u.1 1 2)))))) ↔ dgs r = true := by
  cases r with
  | nil => exact ⟨fun z => absurd ((h.end_ hT).mpr rfl) z.1, fun z => by cases z⟩
  | cons c t =>
    have g : ¬ u.1 1 1 ≤ u.1 1 2 := fun z => by have := (h.end_ hT).mp z; cases this
    obtain ⟨c1, c2, c3, c4⟩ := h.cons hT
    rw [c2]
    exact ⟨fun z => (n_dg c4).mp z.2, fun z => ⟨g, (n_dg c4).mpr z⟩⟩
theorem mT.hd {T r : List Nat} {u : ax_S} (h : mT T u r) (hT : tkOk T) : (if u.1 0 2 ≤ u.1 0 3 then (-1 : Int32) else u.1 1 (Int32.toNatClampNeg (u.1 0 3))) = hdI r := by
  cases r with
  | nil => exact if_pos ((h.end_ hT).mpr rfl)
  | cons c t =>
    have g : ¬ u.1 0 2 ≤ u.1 0 3 := fun z => by have := (h.end_ hT).mp z; cases this
    rw [if_neg g, (h.cons hT).2.1]; rfl
theorem hdI_dg {r : List Nat} (hr : ∀ c ∈ r, c ≤ 255) : (¬ hdI r < (48 : Int32) ∧ ¬ (57 : Int32) < hdI r) ↔ dgs r = true := by
  cases r with
  | nil => exact ⟨fun z => absurd (by decide) z.1, fun z => by cases z⟩
  | cons c t => exact n_dg (hr c List.mem_cons_self)
theorem mT.in_ {T r : List Nat} {u : ax_S} (h : mT T u r) (hT : tkOk T) (z : ¬ u.1 0 2 ≤ u.1 0 3) : vp_in (u.1 0 3) 240 := by
  cases r with
  | nil => exact absurd ((h.end_ hT).mpr rfl) z
  | cons c t => exact (h.cons hT).1
theorem cT.in_ {T r : List Nat} {u : ax_S} (h : cT T u r) (hT : tkOk T) (z : ¬ u.1 1 1 ≤ u.1 1 2) : vp_in (u.1 1 2) 240 := by
  cases r with
  | nil => exact absurd ((h.end_ hT).mpr rfl) z
  | cons c t => exact (h.cons hT).1
def nuS (c i : Nat) : Prop := c = 1 ∧ (i = 2 ∨ i = 3)
def nuM (c i : Nat) : Prop := c = 0 ∧ (i = 3 ∨ i = 4)
/-- Tape.takesNumber -/
theorem ct_X9_takesNumber {d : Nat} (hd : 2 ≤ d) {T : List Nat} (hT : tkOk T) {u : ax_S} {r : List Nat} (h : cT T u r) {D : Nat} (hD : D ≤ 4) :
    ax_Ct shC d mX9_takesNumber [ax_r 1, ax_i (nI D)] (fun y w => fo nuS w u ∧ ((dgs (sg r) = false ∧ y = some (ax_i 0) ∧ cT T w (sg r)) ∨ (dgs (sg r) = true ∧ dgs (numA D 0 (sg r)).2 = true ∧ y = some (ax_i 0) ∧ cT T w (numA D 0 (sg r)).2) ∨ (dgs (sg r) = true ∧ dgs (numA D 0 (sg r)).2 = false ∧ y = some (ax_i 1) ∧ cT T w (numA D 0 (sg r)).2 ∧ w.1 1 3 = nI (numA D 0 (sg r)).1))) u := by
  obtain ⟨d, rfl⟩ : ∃ e, d = e + 1 := ⟨d - 1, by omega⟩
  refine ax_Ct.of (lv := [some (ax_r 1), some (ax_i (nI D)), none]) (by decide +kernel) (fun ad => Nat.le_of_ble_eq_true rfl) (fun ad => rfl) ?_
  refine s_X9_takesNumber_0 (by omega) u _ ?_
  refine (ct_X9_sign (by omega) hT h).mono ?_
  rintro y w ⟨rfl, w1, w2⟩
  have fw : fo nuS w u := w1.mono (fun c i z => ⟨z.1, Or.inl z.2⟩)
  have hdg := w2.dg hT
  refine ⟨_, rfl, s_X9_takesNumber_4 (by omega) w _ _ (fun z => w2.in_ hT z) (fun z _ => w2.in_ hT z) (fun z => ?_) (fun z => ⟨fw, Or.inl ⟨?_, rfl, w2⟩⟩)⟩
  · have z' := hdg.mp z
    have loop : ∀ f i v s t, i + f = D → v < 10 ^ i → cT T t s → t.1 1 3 = nI v → fo nuS t u → ax_W shC (d + 1) mX9_takesNumber (fun y w => fo nuS w u ∧ ((dgs (numA f v s).2 = true ∧ y = some (ax_i 0) ∧ cT T w (numA f v s).2) ∨ (dgs (numA f v s).2 = false ∧ y = some (ax_i 1) ∧ cT T w (numA f v s).2 ∧ w.1 1 3 = nI (numA f v s).1))) 21 [some (ax_r 1), some (ax_i (nI D)), some (ax_i (nI i))] [] t := by
      intro f
      induction f with
      | zero =>
        intro i v s t hi hv ht h3 hf
        have g : nI D ≤ nI i := (n_le _ _).mpr (by omega)
        have hds := ht.dg hT
        refine s_X9_takesNumber_21 (by omega) t _ _ (fun _ z => ht.in_ hT z) (fun _ z _ => ht.in_ hT z) (fun _ => ⟨hf, ?_⟩) (fun z => absurd g z) (fun z => absurd g z) (fun z => absurd g z) (fun z => absurd g z) (fun z => absurd g z) (fun z => absurd g z) (fun z => absurd g z)
        cases e : dgs s
        · right; exact ⟨e, by rw [if_pos (fun z => by rw [hds.mp z] at e; cases e)], ht, h3⟩
        · left; exact ⟨e, by rw [if_neg (not_not_intro (hds.mpr e))], ht⟩
      | succ f ih =>
        intro i v s t hi hv ht h3 hf
        have g : ¬ nI D ≤ nI i := fun z => absurd ((n_le _ _).mp z) (by omega)
        have hds := ht.dg hT
        refine s_X9_takesNumber_21 (by omega) t _ _ (fun z => absurd z g) (fun z => absurd z g) (fun z => absurd z g) (fun _ z => ht.in_ hT z) (fun _ z _ => ht.in_ hT z) (fun _ _ z => ht.in_ hT z) (fun _ _ z _ => ht.in_ hT z) (fun _ z => ⟨hf, Or.inr ?_⟩) (fun _ z => ht.in_ hT z.1) (fun _ z => ?_)
        · have e : dgs s = false := by cases q : dgs s
                                       · rfl
                                       · exact absurd (hds.mpr q) z
          have en : numA (f + 1) v s = (v, s) := by
            cases s with
            | nil => rfl
            | cons c t => rw [numA, if_neg (show ¬ dg c = true by have e' : dg c = false := e; rw [e']; decide)]
          rw [en]
          exact ⟨e, by rw [if_pos z], ht, h3⟩
        · have e := hds.mp z
          cases s with
          | nil => cases e
          | cons c s' =>
            have e' : dg c = true := e
            have ec := dg_iff.mp e'
            obtain ⟨c1, c2, c3, c4⟩ := ht.cons hT
            have hpow : 10 ^ i ≤ 10 ^ 4 := Nat.pow_le_pow_right (by omega) (by omega)
            have hp4 : (10 : Nat) ^ 4 = 10000 := by decide
            have ev : nI v * (10 : Int32) + nI c - 48 = nI (10 * v + (c - 48)) := by
              rw [show nI v * (10 : Int32) = nI (v * 10) from n_mul v 10, n_add, show nI (v * 10 + c) - (48 : Int32) = nI (v * 10 + c - 48) from n_sub _ 48]
              congr 1; omega
            rw [h3, c2, ev, nI_1]
            rw [numA, if_pos e']
            refine ih (i + 1) (10 * v + (c - 48)) s' _ (by omega) ?_ ?_ ?_ ((hf.ui ⟨rfl, Or.inr rfl⟩).ui ⟨rfl, Or.inl rfl⟩)
            · rw [Nat.pow_succ]; omega
            · have c3' := c3
              have hfk : fk (fun c i => c = 1 ∧ i = 3) (ax_ui (ax_ui t 1 3 (nI (10 * v + (c - 48)))) 1 2 (t.1 1 2 + 1)) (ax_ui t 1 2 (t.1 1 2 + 1)) := fun a b hab => by
                rw [ui_any, ui_any, ui_any]
                by_cases q : a = 1 ∧ b = 2
                · rw [if_pos q, if_pos q]
                · rw [if_neg q, if_neg q, if_neg hab]
              exact c3'.to hfk (by omega)
            · rw [ui_idx (by omega), ui_same]
    refine (loop D 0 0 (sg r) _ (by omega) (by decide) (w2.to (fo.rfl'.ui (S := fun c i => c = 1 ∧ i = 3) ⟨rfl, rfl⟩ : fo _ (ax_ui w 1 3 0) w).1 (by omega)) (ui_same _ _ _ _) (fw.ui ⟨rfl, Or.inr rfl⟩)).mono ?_
    rintro y w ⟨q1, q2 | q2⟩
    · exact ⟨q1, Or.inr (Or.inl ⟨z', q2⟩)⟩
    · exact ⟨q1, Or.inr (Or.inr ⟨z', q2⟩)⟩
  · cases q : dgs (sg r)
    · rfl
    · exact absurd (hdg.mpr q) z
/-- the reference's plainNumber, at a digit -/
theorem ct_X12_plainNumber {d : Nat} (hd : 2 ≤ d) {T : List Nat} (hT : tkOk T) {u : ax_S} {r : List Nat} (h : mT T u r) (hw : u.1 0 4 = -1) :
    ax_Ct shM d mX12_plainNumber [ax_r 0] (fun y w => fo nuM w u ∧ y = some (ax_i (nI (numA 4 0 r).1)) ∧ mT T w (numA 4 0 r).2 ∧ w.1 0 4 = (if dgs (numA 4 0 r).2 then nI (T.length - (numA 4 0 r).2.length) else -1)) u := by
  obtain ⟨d, rfl⟩ : ∃ e, d = e + 1 := ⟨d - 1, by omega⟩
  refine ax_Ct.of (lv := [some (ax_r 0), none, none]) (by decide +kernel) (fun ad => Nat.le_of_ble_eq_true rfl) (fun ad => rfl) ?_
  refine s_X12_plainNumber_0 (by omega) u ?_
  have loop : ∀ f i v s t, i + f = 4 → v < 10 ^ i → mT T t s → t.1 0 4 = -1 → fo nuM t u → ax_W shM (d + 1) mX12_plainNumber (fun y w => fo nuM w u ∧ y = some (ax_i (nI (numA f v s).1)) ∧ mT T w (numA f v s).2 ∧ w.1 0 4 = (if dgs (numA f v s).2 then nI (T.length - (numA f v s).2.length) else -1)) 4 [some (ax_r 0), some (ax_i (nI v)), some (ax_i (nI i))] [] t := by
    intro f
    induction f with
    | zero =>
      intro i v s t hi hv ht h4 hf
      have g : (4 : Int32) ≤ nI i := (n_le 4 i).mpr (by omega)
      have hds := hdI_dg (r := s) (fun c hc => ((ht.le hT).2 c hc).2)
      refine s_X12_plainNumber_4 (by omega) t _ _ (fun _ z => ht.in_ hT z) (fun _ z => ?_) (fun _ z => ?_) (fun z => absurd g z) (fun z => absurd g z) (fun z => absurd g z) (fun z => absurd g z) (fun z => absurd g z)
      · rw [ht.hd hT] at z
        have e : dgs s = false := by cases q : dgs s
                                     · rfl
                                     · exact absurd (hds.mpr q) z
        refine ⟨hf, rfl, ht, ?_⟩
        show t.1 0 4 = if dgs s then _ else _
        rw [e]; exact h4
      · rw [ht.hd hT] at z
        have e := hds.mp z
        refine ⟨hf.ui ⟨rfl, Or.inr rfl⟩, rfl, ht.to (fo.rfl'.ui (S := fun c i => c = 0 ∧ i = 4) ⟨rfl, rfl⟩ : fo _ (ax_ui t 0 4 _) t).1 (by omega), ?_⟩
        rw [ui_same, if_neg (not_not_intro h4), ht.at]
        show _ = if dgs s then _ else _
        rw [e]; rfl
    | succ f ih =>
      intro i v s t hi hv ht h4 hf
      have g : ¬ (4 : Int32) ≤ nI i := fun z => absurd ((n_le 4 i).mp z) (by omega)
      have hds := hdI_dg (r := s) (fun c hc => ((ht.le hT).2 c hc).2)
      refine s_X12_plainNumber_4 (by omega) t _ _ (fun z => absurd z g) (fun z => absurd z g) (fun z => absurd z g) (fun _ z => ht.in_ hT z) (fun _ _ z => ht.in_ hT z) (fun _ z => ?_) (fun _ _ z => ht.in_ hT z) (fun _ z => ?_)
      · rw [ht.hd hT] at z
        have e : dgs s = false := by cases q : dgs s
                                     · rfl
                                     · exact absurd (hds.mpr q) z
        have en : numA (f + 1) v s = (v, s) := by
          cases s with
          | nil => rfl
          | cons c t => rw [numA, if_neg (show ¬ dg c = true by have e' : dg c = false := e; rw [e']; decide)]
        rw [en]
        refine ⟨hf, rfl, ht, ?_⟩
        show t.1 0 4 = if dgs s then _ else _
        rw [e]; exact h4
      · rw [ht.hd hT] at z
        have e := hds.mp z
        cases s with
        | nil => cases e
        | cons c s' =>
          have e' : dg c = true := e
          have ec := dg_iff.mp e'
          obtain ⟨c1, c2, c3, c4⟩ := ht.cons hT
          have hpow : 10 ^ i ≤ 10 ^ 4 := Nat.pow_le_pow_right (by omega) (by omega)
          have hp4 : (10 : Nat) ^ 4 = 10000 := by decide
          have ev : (10 : Int32) * nI v + nI c - 48 = nI (10 * v + (c - 48)) := by
            rw [show (10 : Int32) * nI v = nI (10 * v) from n_mul 10 v, n_add, show nI (10 * v + c) - (48 : Int32) = nI (10 * v + c - 48) from n_sub _ 48]
            congr 1; omega
          rw [ht.hd hT]
          show ax_W shM (d + 1) mX12_plainNumber _ 4 [some (ax_r 0), some (ax_i ((10 : Int32) * nI v + nI c - 48)), some (ax_i (nI i + 1))] [] _
          rw [ev, nI_1, numA, if_pos e']
          refine ih (i + 1) (10 * v + (c - 48)) s' _ (by omega) ?_ c3 (by rw [ui_idx (by omega)]; exact h4) (hf.ui ⟨rfl, Or.inl rfl⟩)
          rw [Nat.pow_succ]; omega
  exact loop 4 0 0 r u (by omega) (by decide) h hw fo.rfl'
/-! the laws' state -/
theorem n_put {a v : Nat} (ha : a < 16) (hv : v < 100000) : (nI a ||| (nI v <<< ((4 : Int32) &&& 31))) = nI (a + 16 * v) := by
  apply b_ext
  intro i hi
  have h4 : ((4 : Int32) &&& 31) = (nI 4 &&& 31) := rfl
  rw [b_or, h4, b_shl 4 (by omega) (nI v) hi, bt_nI, bt_nI, bt_nI, decide_eq_true hi]
  have e : a + 16 * v = 2 ^ 4 * v + a := by omega
  rw [e]
  by_cases z : 4 ≤ i
  · rw [Nat.testBit_two_pow_mul_add v (by omega : a < 2 ^ 4) i, if_neg (by omega), decide_eq_true z, decide_eq_true (show i - 4 < 32 by omega), Nat.testBit_lt_two_pow (Nat.lt_of_lt_of_le ha (show 16 ≤ 2 ^ i from Nat.le_trans (by decide : 16 ≤ 2 ^ 4) (Nat.pow_le_pow_right (by omega) z)))]
    rfl
  · rw [Nat.testBit_two_pow_mul_add v (by omega : a < 2 ^ 4) i, if_pos (by omega), decide_eq_false z]; simp
