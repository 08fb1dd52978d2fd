/-! ===== laws read: what both do, sign by sign ===== -/
def lrS (c i : Nat) : Prop := nuS c i ∨ c = 3 ∨ c = 18
def lmF (n0 c i : Nat) : Prop := (c = 0 ∧ (i = 3 ∨ i = 4 ∨ i = 5)) ∨ ((c = 2 ∨ c = 3) ∧ 520 * n0 ≤ i) ∨ (c = 4 ∧ i = n0)
def cS (T : List Nat) (u : ax_S) (r code : List Nat) : Prop := cT T u r ∧ u.1 3 2 = nI code.length ∧ ∀ i w, code[i]? = some w → u.1 18 i = nI w
def mP (n0 : Nat) (u : ax_S) (cs : List (Nat × Nat)) : Prop := u.1 0 14 = nI n0 ∧ u.1 4 n0 = nI cs.length ∧ ∀ i x, cs[i]? = some x → u.1 2 (520 * n0 + i) = nI x.1 ∧ u.1 3 (520 * n0 + i) = nI x.2
def mLs (T : List Nat) (n0 : Nat) (u : ax_S) (r : List Nat) (m : Nat) (cs : List (Nat × Nat)) : Prop := mT T u r ∧ u.1 0 4 = -1 ∧ u.1 0 5 = nI m ∧ mP n0 u cs
def mE (T : List Nat) (n0 n B : Nat) (w : ax_S) : Prop := w.1 0 4 = nI (T.length - n) ∧ ¬ w.1 0 4 = -1 ∧ ∃ cs, mP n0 w cs ∧ cs.length ≤ B
abbrev rR : Type := Nat ⊕ (List (Nat × Nat) × List Nat)
def cQ (T : List Nat) (u : ax_S) (code : List Nat) (R : rR) (y : Option ax_V) (w : ax_S) : Prop := fo lrS w u ∧ match R with
  | Sum.inl n => y = some (ax_i 0) ∧ w.1 1 2 = nI (T.length - n)
  | Sum.inr p => y = some (ax_i 1) ∧ cS T w p.2 (code ++ lw_e p.1)
def mQ (T : List Nat) (n0 : Nat) (u : ax_S) (m : Nat) (cs : List (Nat × Nat)) (B : Nat) (R : rR) (y : Option ax_V) (w : ax_S) : Prop := y = none ∧ fo (lmF n0) w u ∧ match R with
  | Sum.inl n => mE T n0 n B w
  | Sum.inr p => mLs T n0 w p.2 m (cs ++ p.1)
/-- what a reading may be: kinds in, kinds out; each step is paid by a sign; q signs at least -/
def PR (kin kout : List Bool) (X q : Nat) (r : List Nat) (R : rR) : Prop := match R with
  | Sum.inl n => n ≤ r.length
  | Sum.inr p => p.1.length + p.2.length ≤ r.length ∧ p.2.length + q ≤ r.length ∧ (∀ c ∈ p.2, c ∈ r) ∧ ∀ k : List Bool, k.length ≤ X → le_ok 60 p.1 (kin ++ k) (kout ++ k)
def NC (cM : ax_M) (As : List ax_V) (dd : Nat) (T r : List Nat) (R : rR) : Prop := ∀ d u code, dd ≤ d → cS T u r code → code.length + r.length ≤ 240 → ax_Ct shC d cM As (cQ T u code R) u
def NM (mM : ax_M) (dd e : Nat) (T : List Nat) (n0 m : Nat) (r : List Nat) (R : rR) : Prop := ∀ d u cs, dd ≤ d → mLs T n0 u r m cs → cs.length + r.length ≤ 240 → ax_Ct shM d mM [ax_r 0] (mQ T n0 u m cs (cs.length + r.length + e) R) u
def NT (cM : ax_M) (As : List ax_V) (mM : ax_M) (dd e : Nat) (kin kout : List Bool) (X : Nat) (T : List Nat) (n0 m : Nat) (r : List Nat) : Prop := ∃ R : rR, PR kin kout X 1 r R ∧ NC cM As dd T r R ∧ NM mM dd e T n0 m r R
theorem cS.to {S : Nat → Nat → Prop} {T r code : List Nat} {u w : ax_S} (h : cS T u r code) (hf : fk S w u) (hS : ∀ c i, S c i → ¬ (c = 3 ∨ c = 18)) (h2 : cT T w r) : cS T w r code :=
  ⟨h2, by rw [hf 3 2 (fun z => hS _ _ z (by omega))]; exact h.2.1, fun i x hx => by rw [hf 18 i (fun z => hS _ _ z (by omega))]; exact h.2.2 i x hx⟩
theorem cS.mv {T r s code : List Nat} {u w : ax_S} (h : cS T u r code) (hf : fo nuS w u) (h2 : cT T w s) : cS T w s code :=
  ⟨h2, by rw [hf.1 3 2 (by unfold nuS; omega)]; exact h.2.1, fun i x hx => by rw [hf.1 18 i (by unfold nuS; omega)]; exact h.2.2 i x hx⟩
theorem at_nu {w u : ax_S} (h : fo atS w u) : fo nuS w u := h.mono (fun c i z => ⟨z.1, Or.inl z.2⟩)
theorem nu_lr {w u : ax_S} (h : fo nuS w u) : fo lrS w u := h.mono (fun c i z => Or.inl z)
theorem cS.next {T : List Nat} {c : Nat} {t code : List Nat} {u : ax_S} (h : cS T u (c :: t) code) (hT : tkOk T) : cS T (ax_ui u 1 2 (u.1 1 2 + 1)) t code ∧ fo lrS (ax_ui u 1 2 (u.1 1 2 + 1)) u := by
  have f : fo nuS (ax_ui u 1 2 (u.1 1 2 + 1)) u := fo.rfl'.ui ⟨rfl, Or.inl rfl⟩
  exact ⟨h.mv f (h.1.cons hT).2.2.1, nu_lr f⟩
/-- LawReader.put -/
theorem ct_X6_put {d : Nat} (hd : 1 ≤ d) {T r code : List Nat} {u : ax_S} (h : cS T u r code) (hl : code.length < 240) {a v : Nat} (ha : a < 16) (hv : v < 100000) :
    ax_Ct shC d mX6_put [ax_r 3, ax_i (nI a), ax_i (nI v)] (fun y w => y = none ∧ fo lrS w u ∧ cS T w r (code ++ [a + 16 * v])) u := by
  obtain ⟨d, rfl⟩ : ∃ e, d = e + 1 := ⟨d - 1, by omega⟩
  refine ax_Ct.of (lv := [some (ax_r 3), some (ax_i (nI a)), some (ax_i (nI v))]) (by decide +kernel) (fun ad => Nat.le_of_ble_eq_true rfl) (fun ad => rfl) ?_
  have g : ¬ (Int32.ofNat 240) ≤ u.1 3 2 := by rw [h.2.1]; exact fun z => absurd ((n_le 240 code.length).mp z) (by omega)
  refine s_X6_put_0 (by omega) u _ _ (fun z => absurd z g) (fun _ => by rw [h.2.1]; exact n_in _ _) (fun _ => ⟨rfl, (fo.rfl'.ui (Or.inr (Or.inr rfl))).ui (Or.inr (Or.inl rfl)), ?_⟩)
  rw [h.2.1, n_tn code.length, n_put ha hv, nI_1]
  have f : fo (fun c i => c = 3 ∨ c = 18) (ax_ui (ax_ui u 18 code.length (nI (a + 16 * v))) 3 2 (nI (code.length + 1))) u := (fo.rfl'.ui (Or.inr rfl)).ui (Or.inl rfl)
  refine ⟨h.1.to f.1 (by omega), by rw [ui_same, List.length_append]; rfl, fun i x hx => ?_⟩
  rw [ui_cell (by omega)]
  by_cases e : i = code.length
  · subst e
    rw [List.getElem?_append_right (Nat.le_refl _), Nat.sub_self] at hx
    have : a + 16 * v = x := Option.some.inj hx
    rw [ui_same, this]
  · have hi : i < code.length := by
      have := (List.getElem?_eq_some_iff.mp hx).1
      rw [List.length_append] at this
      have h1 : [a + 16 * v].length = 1 := rfl
      omega
    rw [List.getElem?_append_left hi] at hx
    rw [ui_idx e]; exact h.2.2 i x hx
/-- the reference's put -/
def pu (u : ax_S) (n0 c : Nat) (a v : Int32) : ax_S := ax_ui (ax_ui (ax_ui u 2 (520 * n0 + c) a) 3 (520 * n0 + c) v) 4 n0 (nI (c + 1))
theorem put_eq {u : ax_S} {n0 : Nat} {cs : List (Nat × Nat)} (h : mP n0 u cs) (hn : n0 ≤ 4) (hc : cs.length < 520) (a v : Int32) :
    ax_ui (ax_ui (ax_ui u 2 (Int32.toNatClampNeg ((520 : Int32) * u.1 0 14 + u.1 4 (Int32.toNatClampNeg (u.1 0 14)))) a) 3 (Int32.toNatClampNeg ((520 : Int32) * u.1 0 14 + u.1 4 (Int32.toNatClampNeg (u.1 0 14)))) v) 4 (Int32.toNatClampNeg (u.1 0 14)) (u.1 4 (Int32.toNatClampNeg (u.1 0 14)) + 1) = pu u n0 cs.length a v := by
  rw [h.1, n_tn n0, h.2.1, show (520 : Int32) * nI n0 = nI (520 * n0) from n_mul 520 n0, n_add, n_tn _, nI_1]; rfl
theorem put_in {u : ax_S} {n0 : Nat} {cs : List (Nat × Nat)} (h : mP n0 u cs) (hn : n0 ≤ 4) (hc : cs.length < 520) : vp_in (u.1 0 14) 5 ∧ vp_in ((520 : Int32) * u.1 0 14 + u.1 4 (Int32.toNatClampNeg (u.1 0 14))) 2600 := by
  rw [h.1, n_tn n0, h.2.1, show (520 : Int32) * nI n0 = nI (520 * n0) from n_mul 520 n0, n_add]
  exact ⟨n_in _ _, n_in _ _⟩
theorem pu_fo (u : ax_S) (n0 c : Nat) (a v : Int32) : fo (lmF n0) (pu u n0 c a v) u := ((fo.rfl'.ui (by unfold lmF; omega)).ui (by unfold lmF; omega)).ui (by unfold lmF; omega)
theorem pu_fk (u : ax_S) (n0 c : Nat) (a v : Int32) : fk (fun c i => c = 2 ∨ c = 3 ∨ c = 4) (pu u n0 c a v) u := (((fo.rfl'.ui (by omega)).ui (by omega)).ui (by omega) : fo (fun c i => c = 2 ∨ c = 3 ∨ c = 4) (pu u n0 c a v) u).1
theorem mP.put {u : ax_S} {n0 : Nat} {cs : List (Nat × Nat)} (h : mP n0 u cs) (a v : Nat) : mP n0 (pu u n0 cs.length (nI a) (nI v)) (cs ++ [(a, v)]) := by
  refine ⟨by rw [pu_fk _ _ _ _ _ 0 14 (by omega)]; exact h.1, by show (ax_ui _ 4 n0 _).1 4 n0 = _; rw [ui_same, List.length_append]; rfl, fun i x hx => ?_⟩
  have a2 : (pu u n0 cs.length (nI a) (nI v)).1 2 (520 * n0 + i) = if i = cs.length then nI a else u.1 2 (520 * n0 + i) := by
    show (ax_ui (ax_ui (ax_ui u 2 (520 * n0 + cs.length) (nI a)) 3 (520 * n0 + cs.length) (nI v)) 4 n0 (nI (cs.length + 1))).1 2 (520 * n0 + i) = _
    rw [ui_cell (show 2 ≠ 4 by omega), ui_cell (show 2 ≠ 3 by omega)]
    by_cases e : i = cs.length
    · rw [if_pos e, e, ui_same]
    · rw [if_neg e, ui_idx (by omega)]
  have a3 : (pu u n0 cs.length (nI a) (nI v)).1 3 (520 * n0 + i) = if i = cs.length then nI v else u.1 3 (520 * n0 + i) := by
    show (ax_ui (ax_ui (ax_ui u 2 (520 * n0 + cs.length) (nI a)) 3 (520 * n0 + cs.length) (nI v)) 4 n0 (nI (cs.length + 1))).1 3 (520 * n0 + i) = _
    rw [ui_cell (show 3 ≠ 4 by omega)]
    by_cases e : i = cs.length
    · rw [if_pos e, e, ui_same]
    · rw [if_neg e, ui_idx (by omega), ui_cell (show 3 ≠ 2 by omega)]
  rw [a2, a3]
  by_cases e : i = cs.length
  · subst e
    rw [List.getElem?_append_right (Nat.le_refl _), Nat.sub_self] at hx
    have : (a, v) = x := Option.some.inj hx
    rw [if_pos rfl, if_pos rfl, ← this]; exact ⟨rfl, rfl⟩
  · have hi : i < cs.length := by
      have := (List.getElem?_eq_some_iff.mp hx).1
      rw [List.length_append] at this
      have h1 : [(a, v)].length = 1 := rfl
      omega
    rw [List.getElem?_append_left hi] at hx
    rw [if_neg e, if_neg e]; exact h.2.2 i x hx
theorem mLs.put {T : List Nat} {u : ax_S} {n0 : Nat} {r : List Nat} {m : Nat} {cs : List (Nat × Nat)} (h : mLs T n0 u r m cs) (a v : Nat) : mLs T n0 (pu u n0 cs.length (nI a) (nI v)) r m (cs ++ [(a, v)]) :=
  ⟨h.1.to (pu_fk _ _ _ _ _) (by omega), by rw [pu_fk _ _ _ _ _ 0 4 (by omega)]; exact h.2.1, by rw [pu_fk _ _ _ _ _ 0 5 (by omega)]; exact h.2.2.1, h.2.2.2.put a v⟩
theorem mE.put {T : List Nat} {n0 n B : Nat} {w : ax_S} {cs : List (Nat × Nat)} (h : mE T n0 n B w) (hP : mP n0 w cs) (hl : cs.length + 1 ≤ B) (a v : Nat) : mE T n0 n B (pu w n0 cs.length (nI a) (nI v)) := by
  refine ⟨by rw [pu_fk _ _ _ _ _ 0 4 (by omega)]; exact h.1, by rw [pu_fk _ _ _ _ _ 0 4 (by omega)]; exact h.2.1, _, hP.put a v, by rw [List.length_append]; exact hl⟩
theorem mP.to {S : Nat → Nat → Prop} {u w : ax_S} {n0 : Nat} {cs : List (Nat × Nat)} (h : mP n0 u cs) (hf : fk S w u) (hS : ∀ c i, S c i → c = 0 ∧ i ≠ 14) : mP n0 w cs :=
  ⟨by rw [hf 0 14 (fun z => absurd (hS _ _ z).2 (by omega))]; exact h.1, by rw [hf 4 n0 (fun z => absurd (hS _ _ z).1 (by omega))]; exact h.2.1, fun i x hx => by rw [hf 2 _ (fun z => absurd (hS _ _ z).1 (by omega)), hf 3 _ (fun z => absurd (hS _ _ z).1 (by omega))]; exact h.2.2 i x hx⟩
theorem mLs.mv {T : List Nat} {u w : ax_S} {n0 : Nat} {r s : List Nat} {m : Nat} {cs : List (Nat × Nat)} (h : mLs T n0 u r m cs) (hf : fo atM w u) (h2 : mT T w s) : mLs T n0 w s m cs :=
  ⟨h2, by rw [hf.1 0 4 (by unfold atM; omega)]; exact h.2.1, by rw [hf.1 0 5 (by unfold atM; omega)]; exact h.2.2.1, h.2.2.2.to hf.1 (fun c i z => by unfold atM at z; omega)⟩
theorem at_lm {n0 : Nat} {w u : ax_S} (h : fo atM w u) : fo (lmF n0) w u := h.mono (fun c i z => by unfold atM at z; unfold lmF; omega)
theorem mLs.next {T : List Nat} {c : Nat} {t : List Nat} {u : ax_S} {n0 m : Nat} {cs : List (Nat × Nat)} (h : mLs T n0 u (c :: t) m cs) (hT : tkOk T) : mLs T n0 (ax_ui u 0 3 (u.1 0 3 + 1)) t m cs ∧ fo (lmF n0) (ax_ui u 0 3 (u.1 0 3 + 1)) u := by
  have f : fo atM (ax_ui u 0 3 (u.1 0 3 + 1)) u := fo.rfl'.ui ⟨rfl, rfl⟩
  exact ⟨h.mv f (h.1.cons hT).2.2.1, at_lm f⟩
/-- bad(), where nothing was wrong -/
theorem mLs.bad {T : List Nat} {r : List Nat} {u : ax_S} {n0 m : Nat} {cs : List (Nat × Nat)} (h : mLs T n0 u r m cs) (hT : tkOk T) {B : Nat} (hB : cs.length ≤ B) : ax_ui u 0 4 (if (¬ u.1 0 4 = -1) then u.1 0 4 else u.1 0 3) = ax_ui u 0 4 (nI (T.length - r.length)) ∧ mE T n0 r.length B (ax_ui u 0 4 (nI (T.length - r.length))) ∧ fo (lmF n0) (ax_ui u 0 4 (nI (T.length - r.length))) u := by
  have hl := hT.1
  refine ⟨by rw [if_neg (not_not_intro h.2.1), h.1.at], ⟨ui_same _ _ _ _, by rw [ui_same]; exact n_m1 _, cs, ?_, hB⟩, fo.rfl'.ui (by unfold lmF; omega)⟩
  exact h.2.2.2.to (fo.rfl'.ui (S := fun c i => c = 0 ∧ i = 4) ⟨rfl, rfl⟩ : fo _ (ax_ui u 0 4 _) u).1 (by omega)
theorem mE.w {T : List Nat} {n0 n B : Nat} {w v : ax_S} (h : mE T n0 n B w) (hf : fo (fun c i => c = 0 ∧ (i = 3 ∨ i = 5)) v w) : mE T n0 n B v := by
  obtain ⟨h1, h2, cs, h3, h4⟩ := h
  exact ⟨by rw [hf.1 0 4 (by omega)]; exact h1, by rw [hf.1 0 4 (by omega)]; exact h2, cs, h3.to hf.1 (by omega), h4⟩
theorem mE.le {T : List Nat} {n0 n B B' : Nat} {w : ax_S} (h : mE T n0 n B w) (hB : B ≤ B') : mE T n0 n B' w := by
  obtain ⟨h1, h2, cs, h3, h4⟩ := h
  exact ⟨h1, h2, cs, h3, by omega⟩
/-! letters -/
def li (c : Nat) : Nat := if c = 112 then 0 else if c = 116 then 1 else if c = 108 then 2 else if c = 107 then 3 else if c = 110 then 4 else if c = 100 then 5 else 6
theorem li_le (c : Nat) : li c ≤ 6 := by unfold li; repeat' split
                                         all_goals omega
theorem li_C {c : Nat} (hc : c ≤ 255) : ∀ i, i < 6 → ((List.getD ([112, 116, 108, 107, 110, 100] : List Int32) i 0) = nI c ↔ li c = i) := by
  intro i hi
  have key : ∀ x, x ≤ 255 → (nI x = nI c ↔ x = c) := fun x hx => n_eq x c
  obtain rfl | rfl | rfl | rfl | rfl | rfl : i = 0 ∨ i = 1 ∨ i = 2 ∨ i = 3 ∨ i = 4 ∨ i = 5 := by omega
  · refine (key 112 (by omega)).trans ?_
    unfold li; repeat' split
    all_goals omega
  · refine (key 116 (by omega)).trans ?_
    unfold li; repeat' split
    all_goals omega
  · refine (key 108 (by omega)).trans ?_
    unfold li; repeat' split
    all_goals omega
  · refine (key 107 (by omega)).trans ?_
    unfold li; repeat' split
    all_goals omega
  · refine (key 110 (by omega)).trans ?_
    unfold li; repeat' split
    all_goals omega
  · refine (key 100 (by omega)).trans ?_
    unfold li; repeat' split
    all_goals omega
theorem li_M {c : Nat} (hc : c ≤ 255) : v_X12_letterOf (nI c) = if li c = 6 then -1 else nI (li c) := by
  have key : ∀ x, x ≤ 255 → (nI c = nI x ↔ c = x) := fun x hx => n_eq c x
  have k1 : (nI c = (112 : Int32)) ↔ c = 112 := key 112 (by omega)
  have k2 : (nI c = (116 : Int32)) ↔ c = 116 := key 116 (by omega)
  have k3 : (nI c = (108 : Int32)) ↔ c = 108 := key 108 (by omega)
  have k4 : (nI c = (107 : Int32)) ↔ c = 107 := key 107 (by omega)
  have k5 : (nI c = (110 : Int32)) ↔ c = 110 := key 110 (by omega)
  have k6 : (nI c = (100 : Int32)) ↔ c = 100 := key 100 (by omega)
  unfold v_X12_letterOf li
  simp only [k1, k2, k3, k4, k5, k6]
  by_cases h1 : c = 112
  · rw [if_neg (not_not_intro h1), if_pos h1]; rfl
  rw [if_pos h1, if_neg h1]
  by_cases h2 : c = 116
  · rw [if_neg (not_not_intro h2), if_pos h2]; rfl
  rw [if_pos h2, if_neg h2]
  by_cases h3 : c = 108
  · rw [if_neg (not_not_intro h3), if_pos h3]; rfl
  rw [if_pos h3, if_neg h3]
  by_cases h4 : c = 107
  · rw [if_neg (not_not_intro h4), if_pos h4]; rfl
  rw [if_pos h4, if_neg h4]
  by_cases h5 : c = 110
  · rw [if_neg (not_not_intro h5), if_pos h5]; rfl
  rw [if_pos h5, if_neg h5]
  by_cases h6 : c = 100
  · rw [if_neg (not_not_intro h6), if_pos h6]; rfl
  rw [if_pos h6, if_neg h6, if_pos rfl]
/-- the class's search for a letter -/
theorem w_letters {d : Nat} {u : ax_S} {x : Int32} {Q : Option ax_V → ax_S → Prop} {q : Nat} (hq : q ≤ 6) (hx : ∀ i, i < 6 → ((List.getD ([112, 116, 108, 107, 110, 100] : List Int32) i 0) = x ↔ q = i))
    (K1 : q = 6 → ax_Ct shC d mX9_takesNumber [ax_r 1, ax_i 4] (fun y w => ∃ z : Int32, y = some (ax_i z) ∧ ax_W shC (d + 1) mX6_readsAtom Q 117 [some (ax_r 3), none, none, none] (ax_i z :: []) w) u)
    (K2 : q < 6 → ax_Ct shC d mX6_put [ax_r 3, ax_i 1, ax_i (nI q)] (fun y w => y = none ∧ ax_W shC (d + 1) mX6_readsAtom Q 101 [none, none, none, none] [] w) (ax_ui u 1 2 (u.1 1 2 + 1))) :
    ax_W shC (d + 1) mX6_readsAtom Q 65 [some (ax_r 3), none, some (ax_i x), some (ax_i 0)] [] u := by
  have loop := lp_up (m := q) (P := fun i => ax_W shC (d + 1) mX6_readsAtom Q 65 [some (ax_r 3), none, some (ax_i x), some (ax_i (nI i))] [] u) ?_ ?_
  · exact loop 0 (by omega)
  · by_cases z : q = 6
    · have g : (6 : Int32) ≤ nI q := (n_le 6 q).mpr (by omega)
      exact s_X6_readsAtom_65 (by omega) u _ _ (fun _ => K1 z) (fun c => absurd g c) (fun c => absurd g c) (fun c => absurd g c)
    · have g : ¬ (6 : Int32) ≤ nI q := fun y => absurd ((n_le 6 q).mp y) (by omega)
      refine s_X6_readsAtom_65 (by omega) u _ _ (fun c => absurd c g) (fun _ => n_in _ _) (fun _ c => absurd ?_ c) (fun _ _ => K2 (by omega))
      rw [n_tn q]; exact (hx q (by omega)).mpr rfl
  · intro i hi ih
    have g : ¬ (6 : Int32) ≤ nI i := fun y => absurd ((n_le 6 i).mp y) (by omega)
    refine s_X6_readsAtom_65 (by omega) u _ _ (fun c => absurd c g) (fun _ => n_in _ _) (fun _ _ => ?_) (fun _ c => absurd ?_ c)
    · rw [nI_1]; exact ih
    · rw [n_tn i]; exact fun y => absurd ((hx i (by omega)).mp y) (by omega)
