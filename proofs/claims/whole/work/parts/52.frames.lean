/-! ===== what a change leaves of the state's parts ===== -/
def fk (S : Nat → Nat → Prop) (u σ : ax_S) : Prop := ∀ c i, ¬ S c i → u.1 c i = σ.1 c i
theorem fk.row {S : Nat → Nat → Prop} {u σ : ax_S} (h : fk S u σ) (c : Nat) (hc : ∀ i, ¬ S c i) : u.1 c = σ.1 c := funext fun i => h c i (hc i)
theorem tp_C.to {S : Nat → Nat → Prop} {u σ : ax_S} {tl : Nat} {tp : Nat → Nat} (h : tp_C σ tl tp) (hf : fk S u σ) (hS : ∀ c i, S c i → ¬ ((c = 1 ∧ i = 1) ∨ c = 14)) : tp_C u tl tp := by
  unfold tp_C at h ⊢
  rw [hf 1 1 (fun z => hS _ _ z (by omega)), hf.row 14 (fun i z => hS _ _ z (by omega))]; exact h
theorem bk_C.to {S : Nat → Nat → Prop} {u σ : ax_S} {n : Nat} {E D : Nat → Nat} {dry : Nat} (h : bk_C σ n E D dry) (hf : fk S u σ) (hS : ∀ c i, S c i → ¬ (c = 5 ∨ (23 ≤ c ∧ c ≤ 31))) : bk_C u n E D dry := by
  have n5 : ∀ c, (c = 5 ∨ (23 ≤ c ∧ c ≤ 31)) → u.1 c = σ.1 c := fun c hc => hf.row c (fun i z => hS _ _ z hc)
  unfold bk_C at h ⊢; rw [n5 5 (by omega), n5 23 (by omega), n5 24 (by omega), n5 25 (by omega), n5 26 (by omega), n5 27 (by omega), n5 28 (by omega), n5 29 (by omega), n5 30 (by omega), n5 31 (by omega)]; exact h
theorem bk_sm.to {S : Nat → Nat → Prop} {u σ : ax_S} (h : bk_sm σ) (hf : fk S u σ) (hS : ∀ c i, S c i → ¬ (28 ≤ c ∧ c ≤ 30)) : bk_sm u := by
  have n5 : ∀ c, (28 ≤ c ∧ c ≤ 30) → u.1 c = σ.1 c := fun c hc => hf.row c (fun i z => hS _ _ z hc)
  unfold bk_sm at h ⊢; rw [n5 28 (by omega), n5 29 (by omega), n5 30 (by omega)]; exact h
theorem lwC.to {S : Nat → Nat → Prop} {u σ : ax_S} {lw ho : Nat} {L : Nat → List (List (Nat × Nat) × List (Nat × Nat))} (h : lwC σ lw ho L) (hf : fk S u σ) (hS : ∀ c i, S c i → ¬ ((c = 4 ∧ (i = 4 ∨ i = 5)) ∨ c = 19 ∨ c = 20)) : lwC u lw ho L := by
  unfold lwC lcC at h ⊢; rw [hf 4 4 (fun z => hS _ _ z (by omega)), hf 4 5 (fun z => hS _ _ z (by omega)), hf.row 19 (fun i z => hS _ _ z (by omega)), hf.row 20 (fun i z => hS _ _ z (by omega))]; exact h
theorem ms_C.to {S : Nat → Nat → Prop} {u σ : ax_S} {st ki : Nat} {rf : Nat → Int32} (h : ms_C σ st ki rf) (hf : fk S u σ) (hS : ∀ c i, S c i → ¬ ((c = 0 ∧ (i = 14 ∨ i = 15)) ∨ c = 13)) : ms_C u st ki rf := by
  unfold ms_C at h ⊢; rw [hf 0 14 (fun z => hS _ _ z (by omega)), hf 0 15 (fun z => hS _ _ z (by omega)), hf.row 13 (fun i z => hS _ _ z (by omega))]; exact h
theorem nt_C.to {S : Nat → Nat → Prop} {u σ : ax_S} {nc : Nat} {no : Nat → Nat} (h : nt_C σ nc no) (hf : fk S u σ) (hS : ∀ c i, S c i → ¬ (c = 9 ∨ (39 ≤ c ∧ c ≤ 42))) : nt_C u nc no := by
  have n5 : ∀ c, (c = 9 ∨ (39 ≤ c ∧ c ≤ 42)) → u.1 c = σ.1 c := fun c hc => hf.row c (fun i z => hS _ _ z hc)
  unfold nt_C at h ⊢; rw [n5 9 (by omega), n5 39 (by omega), n5 40 (by omega), n5 41 (by omega), n5 42 (by omega)]; exact h
theorem ts_C.to {S : Nat → Nat → Prop} {u σ : ax_S} {tc : Nat} {te : Nat → Nat} (h : ts_C σ tc te) (hf : fk S u σ) (h2 : u.2 0 17 = σ.2 0 17 ∧ u.2 0 18 = σ.2 0 18) (hS : ∀ c i, S c i → ¬ (c = 0 ∧ i = 16)) : ts_C u tc te := by
  unfold ts_C at h ⊢; rw [hf 0 16 (fun z => hS _ _ z (by omega)), h2.1, h2.2]; exact h
theorem hi_C.to {S : Nat → Nat → Prop} {u σ : ax_S} {n a T : Nat} {D : Nat → Nat} {H : Nat → Nat → Nat} (h : hi_C σ n a T D H) (hf : fk S u σ) (hS : ∀ c i, S c i → ¬ (c = 7 ∨ (c = 8 ∧ i = 2) ∨ c = 36 ∨ c = 37)) : hi_C u n a T D H := by
  unfold hi_C hi_X at h ⊢; rw [hf.row 7 (fun i z => hS _ _ z (by omega)), hf 8 2 (fun z => hS _ _ z (by omega)), hf.row 36 (fun i z => hS _ _ z (by omega)), hf.row 37 (fun i z => hS _ _ z (by omega))]; exact h
theorem im_C.to {S : Nat → Nat → Prop} {u σ : ax_S} {n im : Nat} {I : Nat → Nat} (h : im_C σ n im I) (hf : fk S u σ) (hS : ∀ c i, S c i → ¬ ((c = 0 ∧ i = 13) ∨ (c = 8 ∧ i = 3) ∨ c = 12 ∨ c = 38)) : im_C u n im I := by
  unfold im_C at h ⊢; rw [hf 0 13 (fun z => hS _ _ z (by omega)), hf 8 3 (fun z => hS _ _ z (by omega)), hf.row 12 (fun i z => hS _ _ z (by omega)), hf.row 38 (fun i z => hS _ _ z (by omega))]; exact h
theorem tp_M.to {S : Nat → Nat → Prop} {u τ : ax_S} {tl : Nat} {tp : Nat → Nat} (h : tp_M τ tl tp) (hf : fk S u τ) (hS : ∀ c i, S c i → ¬ ((c = 0 ∧ i = 2) ∨ c = 1)) : tp_M u tl tp := by
  unfold tp_M at h ⊢; rw [hf 0 2 (fun z => hS _ _ z (by omega)), hf.row 1 (fun i z => hS _ _ z (by omega))]; exact h
theorem bk_M.to {S : Nat → Nat → Prop} {u τ : ax_S} {n : Nat} {E D : Nat → Nat} {dry : Nat} (h : bk_M τ n E D dry) (hf : fk S u τ) (hS : ∀ c i, S c i → ¬ ((c = 0 ∧ (i = 23 ∨ i = 24)) ∨ c = 14 ∨ c = 15)) : bk_M u n E D dry := by
  unfold bk_M mD at h ⊢; rw [hf 0 23 (fun z => hS _ _ z (by omega)), hf 0 24 (fun z => hS _ _ z (by omega)), hf.row 14 (fun i z => hS _ _ z (by omega)), hf.row 15 (fun i z => hS _ _ z (by omega))]; exact h
theorem lwM.to {S : Nat → Nat → Prop} {u τ : ax_S} {lw ho : Nat} {L : Nat → List (List (Nat × Nat) × List (Nat × Nat))} (h : lwM τ lw ho L) (hf : fk S u τ) (hS : ∀ c i, S c i → ¬ ((c = 0 ∧ (i = 13 ∨ i = 27)) ∨ c = 2 ∨ c = 3 ∨ (5 ≤ c ∧ c ≤ 8))) : lwM u lw ho L := by
  unfold lwM at h ⊢
  rw [hf 0 13 (fun z => hS _ _ z (by omega)), hf 0 27 (fun z => hS _ _ z (by omega)), hf.row 5 (fun i z => hS _ _ z (by omega))]
  exact ⟨h.1, h.2.1, fun i hi => ⟨(h.2.2 i hi).1, (h.2.2 i hi).2.to (fun c j hc => hf c j (fun z => hS _ _ z (by omega)))⟩⟩
theorem ms_M.to {S : Nat → Nat → Prop} {u τ : ax_S} {st ki : Nat} {rf : Nat → Int32} (h : ms_M τ st ki rf) (hf : fk S u τ) (hS : ∀ c i, S c i → ¬ ((c = 0 ∧ (i = 28 ∨ i = 29)) ∨ c = 16)) : ms_M u st ki rf := by
  unfold ms_M at h ⊢; rw [hf 0 28 (fun z => hS _ _ z (by omega)), hf 0 29 (fun z => hS _ _ z (by omega)), hf.row 16 (fun i z => hS _ _ z (by omega))]; exact h
theorem nt_M.to {S : Nat → Nat → Prop} {u τ : ax_S} {nc : Nat} {no : Nat → Nat} (h : nt_M τ nc no) (hf : fk S u τ) (hS : ∀ c i, S c i → ¬ ((c = 0 ∧ i = 46) ∨ (23 ≤ c ∧ c ≤ 26))) : nt_M u nc no := by
  unfold nt_M at h ⊢; rw [hf 0 46 (fun z => hS _ _ z (by omega)), hf.row 23 (fun i z => hS _ _ z (by omega)), hf.row 24 (fun i z => hS _ _ z (by omega)), hf.row 25 (fun i z => hS _ _ z (by omega)), hf.row 26 (fun i z => hS _ _ z (by omega))]; exact h
theorem ts_M.to {S : Nat → Nat → Prop} {u τ : ax_S} {tc : Nat} {te : Nat → Nat} (h : ts_M τ tc te) (hf : fk S u τ) (hS : ∀ c i, S c i → ¬ ((c = 0 ∧ i = 50) ∨ c = 28 ∨ c = 29)) : ts_M u tc te := by
  unfold ts_M at h ⊢; rw [hf 0 50 (fun z => hS _ _ z (by omega)), hf.row 28 (fun i z => hS _ _ z (by omega)), hf.row 29 (fun i z => hS _ _ z (by omega))]; exact h
theorem hi_M.to {S : Nat → Nat → Prop} {u τ : ax_S} {a : Nat} {H : Nat → Nat → Nat} (h : hi_M τ a H) (hf : fk S u τ) (hS : ∀ c i, S c i → ¬ ((c = 0 ∧ i = 37) ∨ c = 21)) : hi_M u a H := by
  unfold hi_M at h ⊢; rw [hf 0 37 (fun z => hS _ _ z (by omega)), hf.row 21 (fun i z => hS _ _ z (by omega))]; exact h
theorem im_M.to {S : Nat → Nat → Prop} {u τ : ax_S} {im : Nat} {I : Nat → Nat} (h : im_M τ im I) (hf : fk S u τ) (hS : ∀ c i, S c i → ¬ ((c = 0 ∧ i = 52) ∨ c = 30)) : im_M u im I := by
  unfold im_M at h ⊢; rw [hf 0 52 (fun z => hS _ _ z (by omega)), hf.row 30 (fun i z => hS _ _ z (by omega))]; exact h
/-- numbers -/
theorem hb_C {σ : ax_S} {n : Nat} (h : σ.1 5 9 = nI n) (hn : n ≤ 8) : (σ.1 5 9 ≤ 0) ↔ n = 0 := by
  rw [h, show (0 : Int32) = nI 0 from rfl, n_le n 0]; omega
theorem hb_M {τ : ax_S} {n : Nat} (h : τ.1 0 23 = nI n) (hn : n ≤ 8) : (τ.1 0 23 = 0) ↔ n = 0 := by
  rw [h, show (0 : Int32) = nI 0 from rfl, n_eq n 0]
def dst (a b : Nat) : Nat := if a < b then b - a else a - b
theorem dst_abs {a b : Nat} (ha : a < 1000) (hb : b < 1000) : (if (0 : Int32) ≤ nI a - nI b then nI a - nI b else 0 - (nI a - nI b)) = nI (dst a b) := by
  have h1 : (nI a - nI b).toInt = (a : Int) - b := pk_sub_toInt (by omega) (by omega)
  have h0 : Int32.toInt 0 = 0 := by decide
  unfold dst
  by_cases h : a < b
  · have hs : ¬ (0 : Int32) ≤ nI a - nI b := by rw [fa_le, h1, h0]; omega
    rw [if_neg hs, if_pos h, fa_eq, fb_subI (by rw [h1, h0]; omega) (by rw [h1, h0]; omega), h1, h0, nI_toInt (by omega)]; omega
  · have hs : (0 : Int32) ≤ nI a - nI b := by rw [fa_le, h1, h0]; omega
    rw [if_pos hs, if_neg h, n_sub a b]
theorem hoI_toInt {ho : Nat} (h : ho < 100) : (hoI ho).toInt = (ho : Int) - 1 := by
  unfold hoI; split
  · rename_i h0; subst h0; decide
  · rw [nI_toInt (by omega)]; omega
theorem is_L (x : Int32) {lw : Nat} (h : lw ≤ 4) : (¬ x < -1 ∧ x < nI lw) ↔ ∃ ho, ho ≤ lw ∧ x = hoI ho := by
  have h1 : Int32.toInt (-1) = -1 := by decide
  have h2 : (nI lw).toInt = (lw : Int) := nI_toInt (by omega)
  rw [fa_lt, fa_lt, h1, h2]
  constructor
  · rintro ⟨q1, q2⟩
    refine ⟨(x.toInt + 1).toNat, by omega, ?_⟩
    rw [fa_eq, hoI_toInt (by omega)]; omega
  · rintro ⟨ho, q1, rfl⟩
    rw [hoI_toInt (by omega)]; omega
theorem is_Lm (x : Int32) {lw : Nat} (h : lw ≤ 4) : (¬ x < -1 ∧ ¬ nI lw - 1 < x) ↔ ∃ ho, ho ≤ lw ∧ x = hoI ho := by
  rw [← is_L x h]
  have h1 : Int32.toInt (-1) = -1 := by decide
  have h2 : (nI lw).toInt = (lw : Int) := nI_toInt (by omega)
  have h3 : (nI lw - 1).toInt = (lw : Int) - 1 := pk_sub_toInt (a := lw) (b := 1) (by omega) (by omega)
  rw [fa_lt, fa_lt, fa_lt, h1, h2, h3]; omega
