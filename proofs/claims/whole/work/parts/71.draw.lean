/-! ===== DECADES: draws ===== -/
def dX (x : Int64) : Int64 := x * (6364136223846793005 : Int64) + (1442695040888963407 : Int64)
def dU (x : Int64) : Nat := x.toBitVec.toNat / 2 ^ 33
theorem dr_eq (x : Int64) (m : Nat) (h1 : 1 ≤ m := by omega) (h2 : m < 2147483648 := by omega) :
    (Int64.toInt32 ((((Int64.toUInt64 x) >>> ((Int64.toUInt64 (Int32.toInt64 (33 : Int32))) &&& Int64.toUInt64 63)).toInt64) - (((Int64.toUInt64 x) >>> ((Int64.toUInt64 (Int32.toInt64 (33 : Int32))) &&& Int64.toUInt64 63)).toInt64) / (Int32.toInt64 (nI m)) * (Int32.toInt64 (nI m)))) = nI (dU x % m) := by
  obtain ⟨k, hk, rfl⟩ := wb_of x
  have e : ((Int64.toUInt64 (lN k)) >>> ((Int64.toUInt64 (Int32.toInt64 (33 : Int32))) &&& Int64.toUInt64 63)).toInt64 = lN (k / 2 ^ 33) := wb_shr (k := 33) hk (by omega)
  have hb : k / 2 ^ 33 < 2 ^ 63 := by have : k < 2 ^ 64 := hk; omega
  rw [e, nI_l (by omega), pk_lRem hb (by omega) (by omega), lN_i]
  unfold dU
  rw [wb_tn hk]
theorem dr_10 (x : Int64) : (Int64.toInt32 ((((Int64.toUInt64 x) >>> ((Int64.toUInt64 (Int32.toInt64 (33 : Int32))) &&& Int64.toUInt64 63)).toInt64) - (((Int64.toUInt64 x) >>> ((Int64.toUInt64 (Int32.toInt64 (33 : Int32))) &&& Int64.toUInt64 63)).toInt64) / (Int32.toInt64 (10 : Int32)) * (Int32.toInt64 (10 : Int32)))) = nI (dU x % 10) := dr_eq x 10
theorem dr_99 (x : Int64) : (Int64.toInt32 ((((Int64.toUInt64 x) >>> ((Int64.toUInt64 (Int32.toInt64 (33 : Int32))) &&& Int64.toUInt64 63)).toInt64) - (((Int64.toUInt64 x) >>> ((Int64.toUInt64 (Int32.toInt64 (33 : Int32))) &&& Int64.toUInt64 63)).toInt64) / (Int32.toInt64 (99 : Int32)) * (Int32.toInt64 (99 : Int32)))) = nI (dU x % 99) := dr_eq x 99
theorem dr_if10 (c : Int32) : (if (1 : Int32) ≤ (10 : Int32) then c else (0 : Int32)) = c := if_pos (by decide)
theorem dr_if99 (c : Int32) : (if (1 : Int32) ≤ (99 : Int32) then c else (0 : Int32)) = c := if_pos (by decide)
theorem nz64 (m : Nat) (h1 : 1 ≤ m := by omega) (h2 : m < 2147483648 := by omega) : ¬ Int32.toInt64 (nI m) = 0 := by
  rw [nI_l (by omega), show (0 : Int64) = lN 0 from rfl, lN_eq (by omega) (by omega)]; omega
/-- the house in whose height it falls -/
def pkH (E : Nat → Nat) : Nat → Nat → Nat → Nat
  | 0, h, _ => h
  | f + 1, h, l => if l < E (4 * h + 1) then h else pkH E f (h + 1) (l - E (4 * h + 1))
theorem pkH_le (E : Nat → Nat) : ∀ f h l, pkH E f h l ≤ h + f
  | 0, h, _ => Nat.le_refl h
  | f + 1, h, l => by
    rw [pkH]; split
    · omega
    · have := pkH_le E f (h + 1) (l - E (4 * h + 1)); omega
/-- a stroke by chance: the belt, how many more are told, the seed -/
def dcP (n : Nat) (E : Nat → Nat) (dry ho : Nat) (L : Nat → List (List (Nat × Nat) × List (Nat × Nat))) (st : Nat) (D : Nat → Nat) (x : Int64) : (Nat → Nat) × Nat × Int64 :=
  if st ≤ dU (dX x) % 10 then (D, 0, dX x) else (stD n D (kpf E D dry ho L) (pkH E (n - 1) 0 (dU (dX (dX x)) % hts E n)) (dU (dX (dX (dX x))) % 99 + 1), 1, dX (dX (dX x)))
def dcQ (ki : Nat) (D : Nat → Nat) (x : Int64) : (Nat → Nat) × Int64 :=
  if ki ≤ dU (dX x) % 10 then (D, dX x) else if D 84 = 0 then (D, dX x) else (dset D (16 + 4 * (dU (dX (dX x)) % D 84) + 3) 1, dX (dX x))
/-- a wire of the belt is cut -/
theorem cu1_ok {n : Nat} {E D : Nat → Nat} {dry k : Nat} (hb : bk_ok n E D dry) (hk : k < D 84) : bk_ok n E (dset D (16 + 4 * k + 3) 1) dry := by
  have h84 := hb.2.2.2.1
  refine hb.chg (dset_ne (by omega)) (fun h hh => dset_ne (by omega)) (by rw [dset_ne (by omega)]; exact hb.2.2.2.2.1) (by rw [dset_ne (by omega)]; exact hb.2.2.2.2.2.1) (fun w hw => ⟨dset_ne (by omega), dset_ne (by omega), ?_, ?_⟩)
  · show dset D (16 + 4 * k + 3) 1 (16 + 4 * w + 2) ≤ 9; rw [dset_ne (by omega)]; exact (hb.2.2.2.2.2.2.2.2 w hw).2.2.2.1
  · show dset D (16 + 4 * k + 3) 1 (16 + 4 * w + 3) ≤ 1
    unfold dset; split
    · omega
    · exact (hb.2.2.2.2.2.2.2.2 w hw).2.2.2.2
theorem cu1_lg {D : Nat → Nat} {k : Nat} (h : lg_ok D) (hk : k ≤ 16) : lg_ok (dset D (16 + 4 * k + 3) 1) := by
  refine ⟨by rw [dset_ne (by omega)]; exact h.1, fun j hj => ?_⟩
  unfold dset; split
  · omega
  · exact h.2 j hj
theorem cu1_C {u : ax_S} {n : Nat} {E D : Nat → Nat} {dry k : Nat} (hb : bk_ok n E D dry) (hk : k < D 84) (h : bk_C u n E D dry) : bk_C (ax_ui u 5 11 (u.1 5 11 ||| (1 : Int32) <<< (nI k &&& 31))) n E (dset D (16 + 4 * k + 3) 1) dry := by
  have h84 := hb.2.2.2.1
  have hn := hb.2.1
  have f1 : fk (fun c i => (c = 5 ∧ (i = 11 ∨ i = 12 ∨ i = 14)) ∨ c = 30) (ax_ui u 5 11 (u.1 5 11 ||| (1 : Int32) <<< (nI k &&& 31))) u := (fo.rfl'.ui (by omega) : fo (fun c i => (c = 5 ∧ (i = 11 ∨ i = 12 ∨ i = 14)) ∨ c = 30) _ u).1
  refine h.chg f1 (dset_ne (by omega)) (fun h hh => dset_ne (by omega)) hn (fun w hw => ⟨dset_ne (by omega), dset_ne (by omega)⟩) (fun w hw => ?_) (fun i hi => ?_) (by rw [ui_idx (by omega), dset_ne (by omega)]; exact h.2.2.1) (by rw [ui_idx (by omega), dset_ne (by omega)]; exact h.2.2.2.2.1)
  · rw [ui_cell (by omega)]; show u.1 30 w = nI (dset D (16 + 4 * k + 3) 1 (16 + 4 * w + 2)); rw [dset_ne (by omega)]; exact (h.2.2.2.2.2.2.1 w hw).2.2
  · rw [ui_same, b_or, pn_one k (by omega) i hi, h.2.2.2.2.2.2.2.1 i hi]
    by_cases e : i = k
    · have : bk_w (dset D (16 + 4 * k + 3) 1) i 3 = 1 := by rw [e]; exact dset_eq _ _ _
      rw [this, e]; simp [hk]
    · have : bk_w (dset D (16 + 4 * k + 3) 1) i 3 = bk_w D i 3 := dset_ne (by omega)
      rw [this]; simp [e]
theorem dcP_ok {n : Nat} {E D : Nat → Nat} {dry ho : Nat} {L : Nat → List (List (Nat × Nat) × List (Nat × Nat))} {st : Nat} {x : Int64} (hb : bk_ok n E D dry) (hl : lg_ok D) (hn0 : 0 < n) : bk_ok n E (dcP n E dry ho L st D x).1 dry ∧ lg_ok (dcP n E dry ho L st D x).1 ∧ (dcP n E dry ho L st D x).1 86 = D 86 ∧ (dcP n E dry ho L st D x).2.1 ≤ 1 := by
  have hn := hb.2.1
  unfold dcP; split
  · exact ⟨hb, hl, rfl, by show (0 : Nat) ≤ 1; omega⟩
  · have hp := pkH_le E (n - 1) 0 (dU (dX (dX x)) % hts E n)
    refine ⟨stD_ok hb, stD_lg hb hl (by omega) ?_, stD_out hn (by omega) (by omega), by show (1 : Nat) ≤ 1; omega⟩
    have := Nat.mod_lt (dU (dX (dX (dX x)))) (show 0 < 99 by omega)
    omega
theorem dcQ_ok {n : Nat} {E D : Nat → Nat} {dry ki : Nat} {x : Int64} (hb : bk_ok n E D dry) (hl : lg_ok D) : bk_ok n E (dcQ ki D x).1 dry ∧ lg_ok (dcQ ki D x).1 ∧ (dcQ ki D x).1 86 = D 86 := by
  have h84 := hb.2.2.2.1
  unfold dcQ; split
  · exact ⟨hb, hl, rfl⟩
  · split
    · exact ⟨hb, hl, rfl⟩
    · have := Nat.mod_lt (dU (dX (dX x))) (show 0 < D 84 by omega)
      exact ⟨cu1_ok hb this, cu1_lg hl (by omega), dset_ne (by omega)⟩
