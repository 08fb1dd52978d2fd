/-! ===== the belt's text: numbers and items ===== -/
def nm (lo hi : Nat) (r : List Nat) : Nat ⊕ (Nat × List Nat) :=
  if dgs (sg r) = true then
    if dgs (numA 2 0 (sg r)).2 = true then Sum.inl (numA 2 0 (sg r)).2.length
    else if lo ≤ (numA 2 0 (sg r)).1 ∧ (numA 2 0 (sg r)).1 ≤ hi then Sum.inr (numA 2 0 (sg r)) else Sum.inl ((numA 2 0 (sg r)).2.length + 1)
  else Sum.inl (sg r).length
theorem nm_P {lo hi : Nat} {r : List Nat} : match nm lo hi r with
    | Sum.inl n => n ≤ r.length
    | Sum.inr p => p.2.length + 1 ≤ r.length ∧ lo ≤ p.1 ∧ p.1 ≤ hi ∧ ∀ c ∈ p.2, c ∈ r := by
  have hsl := sg_len r
  unfold nm
  by_cases a : dgs (sg r) = true
  · rw [if_pos a]
    have hl : (numA 2 0 (sg r)).2.length < (sg r).length := numA_lt a
    by_cases b : dgs (numA 2 0 (sg r)).2 = true
    · rw [if_pos b]; show (numA 2 0 (sg r)).2.length ≤ r.length; omega
    · rw [if_neg b]
      by_cases c : lo ≤ (numA 2 0 (sg r)).1 ∧ (numA 2 0 (sg r)).1 ≤ hi
      · rw [if_pos c]; exact ⟨by omega, c.1, c.2, fun x hx => sg_sub (numA_sub hx)⟩
      · rw [if_neg c]; show (numA 2 0 (sg r)).2.length + 1 ≤ r.length; omega
  · rw [if_neg a]; exact hsl
def loB (x : Nat) : Nat := if x = 3 then 1 else if x = 4 then 1 else 0
def hiB (x : Nat) : Nat := if x = 0 then 99 else if x = 1 then 9 else if x = 2 then 20 else if x = 3 then 9 else if x = 4 then 99 else if x = 5 then 3 else if x = 6 then 7 else if x = 7 then 7 else 9
def usB (x : Nat) : Nat := if x = 0 then 20 else if x = 3 then 3 else if x = 4 then 20 else if x = 7 then 1 else 0
theorem hiB_b (x : Nat) : hiB x ≤ 99 := by unfold hiB; repeat' split
                                           all_goals omega
theorem loB_b (x : Nat) : loB x ≤ 1 := by unfold loB; repeat' split
                                          all_goals omega
theorem tabB : ∀ x, x < 9 → (List.getD ([0, 0, 0, 1, 1, 0, 0, 0, 0] : List Int32) x 0) = nI (loB x) ∧ (List.getD ([99, 9, 20, 9, 99, 3, 7, 7, 9] : List Int32) x 0) = nI (hiB x) ∧ (List.getD ([20, 0, 0, 3, 20, 0, 0, 1, 0] : List Int32) x 0) = nI (usB x) := by decide +kernel
/-- BeltReader.readsNumberOf -/
theorem ct_X1_readsNumberOf {d : Nat} (hd : 3 ≤ d) {T : List Nat} (hT : tkOk T) {u : ax_S} {r : List Nat} (h : cT T u r) {x : Nat} (hx : x < 9) :
    ax_Ct shC d mX1_readsNumberOf [ax_r 2, ax_i (nI x)] (fun y w => fo nuS w u ∧ match nm (loB x) (hiB x) r with
      | Sum.inl n => y = some (ax_i 0) ∧ w.1 1 2 = nI (T.length - n)
      | Sum.inr p => y = some (ax_i 1) ∧ cT T w p.2 ∧ w.1 1 3 = nI p.1) u := by
  obtain ⟨d, rfl⟩ : ∃ e, d = e + 1 := ⟨d - 1, by omega⟩
  refine ax_Ct.of (lv := [some (ax_r 2), some (ax_i (nI x))]) (by decide +kernel) (fun ad => Nat.le_of_ble_eq_true rfl) (fun ad => rfl) ?_
  refine s_X1_readsNumberOf_0 (by omega) u _ ?_
  have hTl := hT.1
  have hrl := (h.le hT).1
  have hsl := sg_len r
  have hb := numA_b 2 0 (sg r)
  have hp2 : (0 + 1) * 10 ^ 2 = 100 := by decide
  have hhi := hiB_b x
  have hlo := loB_b x
  refine (ct_X9_takesNumber (by omega) hT h (D := 2) (by omega)).mono ?_
  obtain ⟨t1, t2, t3⟩ := tabB x hx
  rintro y w ⟨w1, ⟨a, rfl, w2⟩ | ⟨a, b, rfl, w2⟩ | ⟨a, b, rfl, w2, w3⟩⟩
  · refine ⟨_, rfl, s_X1_readsNumberOf_8 (by omega) w _ _ (fun z => absurd rfl z) (fun z => absurd rfl z) (fun z => absurd rfl z) (fun z => absurd rfl z) (fun z => absurd rfl z) (fun _ => ⟨w1, ?_⟩)⟩
    unfold nm
    rw [if_neg (by rw [a]; decide)]
    exact ⟨rfl, w2.at⟩
  · refine ⟨_, rfl, s_X1_readsNumberOf_8 (by omega) w _ _ (fun z => absurd rfl z) (fun z => absurd rfl z) (fun z => absurd rfl z) (fun z => absurd rfl z) (fun z => absurd rfl z) (fun _ => ⟨w1, ?_⟩)⟩
    unfold nm
    rw [if_pos a, if_pos b]
    exact ⟨rfl, w2.at⟩
  · have hl : (numA 2 0 (sg r)).2.length < (sg r).length := numA_lt a
    have eat : w.1 1 2 - 1 = nI (T.length - ((numA 2 0 (sg r)).2.length + 1)) := by
      rw [w2.at, show nI (T.length - (numA 2 0 (sg r)).2.length) - (1 : Int32) = nI (T.length - (numA 2 0 (sg r)).2.length - 1) from n_sub _ 1]
      congr 1
    have n1 : ¬ (1 : Int32) = 0 := by decide
    have q1 : w.1 1 3 < (List.getD ([0, 0, 0, 1, 1, 0, 0, 0, 0] : List Int32) (Int32.toNatClampNeg (nI x)) 0) ↔ (numA 2 0 (sg r)).1 < loB x := by
      rw [n_tn x, t1, w3]; exact n_lt _ _
    have q2 : w.1 1 3 ≤ (List.getD ([99, 9, 20, 9, 99, 3, 7, 7, 9] : List Int32) (Int32.toNatClampNeg (nI x)) 0) ↔ (numA 2 0 (sg r)).1 ≤ hiB x := by
      rw [n_tn x, t2, w3]; exact n_le _ _
    refine ⟨_, rfl, s_X1_readsNumberOf_8 (by omega) w _ _ (fun _ => n_in _ _) (fun _ z => ⟨w1.ui ⟨rfl, Or.inl rfl⟩, ?_⟩) (fun _ _ => n_in _ _) (fun _ z1 z2 => ⟨w1, ?_⟩) (fun _ z1 z2 => ⟨w1.ui ⟨rfl, Or.inl rfl⟩, ?_⟩) (fun z => absurd n1 z)⟩
    · unfold nm
      rw [if_pos a, if_neg (by rw [b]; decide), if_neg (fun q => by have := q1.mp z; omega)]
      exact ⟨rfl, by rw [ui_same]; exact eat⟩
    · unfold nm
      rw [if_pos a, if_neg (by rw [b]; decide), if_pos ⟨by have : ¬ _ := fun q => z1 (q1.mpr q); omega, q2.mp z2⟩]
      exact ⟨rfl, w2, w3⟩
    · unfold nm
      rw [if_pos a, if_neg (by rw [b]; decide), if_neg (fun q => z2 (q2.mpr q.2))]
      exact ⟨rfl, by rw [ui_same]; exact eat⟩
/-- the reference's number -/
theorem ct_X12_number {d : Nat} (hd : 3 ≤ d) {T : List Nat} (hT : tkOk T) {u : ax_S} {r : List Nat} (h : mT T u r) (h4 : u.1 0 4 = -1) {lo hi : Nat} (hlo : lo ≤ 100) (hhi : hi ≤ 100) :
    ax_Ct shM d mX12_number [ax_r 0, ax_i (nI lo), ax_i (nI hi)] (fun y w => fo nuM w u ∧ match nm lo hi r with
      | Sum.inl n => (∃ x : Int32, y = some (ax_i x)) ∧ wr T n w
      | Sum.inr p => y = some (ax_i (nI p.1)) ∧ mT T w p.2 ∧ w.1 0 4 = -1) u := by
  obtain ⟨d, rfl⟩ : ∃ e, d = e + 1 := ⟨d - 1, by omega⟩
  refine ax_Ct.of (lv := [some (ax_r 0), some (ax_i (nI lo)), some (ax_i (nI hi)), none]) (by decide +kernel) (fun ad => Nat.le_of_ble_eq_true rfl) (fun ad => rfl) ?_
  refine s_X12_number_0 (by omega) u _ _ ?_
  have hTl := hT.1
  have hrl := (h.le hT).1
  have hsl := sg_len r
  refine (ct_X12_look (by omega) hT h).mono ?_
  rintro y w ⟨rfl, w1, w2⟩
  have w4 : w.1 0 4 = -1 := by rw [w1.1 0 4 (by unfold atM; omega)]; exact h4
  have fw : fo nuM w u := w1.mono (fun c i z => ⟨z.1, Or.inl z.2⟩)
  have hs : ∀ c ∈ sg r, c ≤ 255 := fun c hc => ((w2.le hT).2 c hc).2
  have hds := hdI_dg hs
  have bad : ∀ (v : ax_S) (p : Int32) (n : Nat), fo nuM v u → v.1 0 4 = -1 → p = nI (T.length - n) → fo nuM (ax_ui v 0 4 (if (¬ w.1 0 4 = -1) then w.1 0 4 else p)) u ∧ wr T n (ax_ui v 0 4 (if (¬ w.1 0 4 = -1) then w.1 0 4 else p)) := by
    intro v p n f _ e
    rw [if_neg (not_not_intro w4), e]
    exact ⟨f.ui ⟨rfl, Or.inr rfl⟩, ui_same _ _ _ _, by rw [ui_same]; exact n_m1 _⟩
  by_cases a : dgs (sg r) = true
  case neg =>
    have z0 : ¬ (¬ hdI (sg r) < (48 : Int32) ∧ ¬ (57 : Int32) < hdI (sg r)) := fun z => a (hds.mp z)
    refine ⟨_, rfl, s_X12_number_4 (by omega) w _ _ _ (fun z => absurd z z0) (fun z => absurd z z0) (fun z => absurd z z0) (fun z => absurd z z0) (fun z => absurd z z0) (fun z => absurd z z0) (fun z => absurd z z0) (fun z => absurd z z0) (fun z => absurd z z0) (fun z => absurd z z0) (fun _ => ?_)⟩
    obtain ⟨b1, b2⟩ := bad w (w.1 0 3) (sg r).length fw w4 w2.at
    refine ⟨b1, ?_⟩
    unfold nm
    rw [if_neg a]
    exact ⟨⟨_, rfl⟩, b2⟩
  case pos =>
  obtain ⟨c, t, hst⟩ : ∃ c t, sg r = c :: t := by
    cases e : sg r with
    | nil => rw [e] at a; cases a
    | cons c t => exact ⟨c, t, rfl⟩
  have hsn : (sg r).length = t.length + 1 := by rw [hst]; rfl
  have hc : 48 ≤ c ∧ c ≤ 57 := dg_iff.mp (by rw [hst] at a; exact a)
  have dgc : dg c = true := by rw [hst] at a; exact a
  have e0 := w2.hd hT
  have i0 := w2.in_ hT
  have at0 : w.1 0 3 = nI (T.length - (t.length + 1)) := by rw [w2.at, hsn]
  have hz0 : ¬ hdI (sg r) < (48 : Int32) ∧ ¬ (57 : Int32) < hdI (sg r) := hds.mpr a
  rw [hst] at w2
  obtain ⟨-, -, w3, -⟩ := w2.cons hT
  have e1 : (if w.1 0 2 ≤ w.1 0 3 + 1 then (-1 : Int32) else w.1 1 (Int32.toNatClampNeg (w.1 0 3 + 1))) = hdI t := by
    have := w3.hd hT
    rw [ui_same, ui_idx (show 2 ≠ 3 by omega), ui_cell (show 1 ≠ 0 by omega)] at this; exact this
  have i1 : ¬ w.1 0 2 ≤ w.1 0 3 + 1 → vp_in (w.1 0 3 + 1) 240 := by
    have := w3.in_ hT
    rw [ui_same, ui_idx (show 2 ≠ 3 by omega)] at this; exact this
  have at1 : w.1 0 3 + 1 = nI (T.length - t.length) := by
    have := w3.at
    rw [ui_same] at this; exact this
  have ht : ∀ c ∈ t, c ≤ 255 := fun c hc => hs c (by rw [hst]; exact List.mem_cons_of_mem _ hc)
  have hdt := hdI_dg ht
  have hv0 : hdI (sg r) - 48 = nI (c - 48) := by rw [hst]; exact n_sub c 48
  by_cases b : dgs t = true
  case neg =>
    have z1 : ¬ (¬ hdI t < (48 : Int32) ∧ ¬ (57 : Int32) < hdI t) := fun z => b (hdt.mp z)
    have en : numA 2 0 (sg r) = (c - 48, t) := by
      rw [hst, numA, if_pos dgc]
      cases t with
      | nil => rw [numA]; show (10 * 0 + (c - 48), ([] : List Nat)) = _; rw [Nat.mul_zero, Nat.zero_add]
      | cons c2 t2 => rw [numA, if_neg (show ¬ dg c2 = true from b)]; rw [Nat.mul_zero, Nat.zero_add]
    have q : (¬ nI (c - 48) < nI lo ∧ ¬ nI hi < nI (c - 48)) ↔ (lo ≤ c - 48 ∧ c - 48 ≤ hi) := by
      rw [n_lt (c - 48) lo, n_lt hi (c - 48)]; omega
    refine ⟨_, rfl, s_X12_number_4 (by omega) w _ _ _ (fun _ z => i0 z) (fun _ z => i1 z) (fun _ _ z => i1 z) ?_ ?_ (fun _ z => ?_) (fun _ z => ?_) (fun _ z => ?_) (fun _ z => ?_) (fun _ z => ?_) (fun z => absurd hz0 z)⟩
    · rw [e0, hv0]
      intro _ _ z
      have z' := q.mp z
      refine ⟨fw.ui ⟨rfl, Or.inl rfl⟩, ?_⟩
      unfold nm
      rw [if_pos a, en, if_neg b, if_pos z']
      exact ⟨rfl, w3, by rw [ui_idx (by omega)]; exact w4⟩
    · rw [e0, hv0]
      intro _ _ z
      have z' : ¬ (lo ≤ c - 48 ∧ c - 48 ≤ hi) := fun k => z (q.mpr k)
      have ep : w.1 0 3 + 1 - 1 = nI (T.length - (t.length + 1)) := by
        rw [at1, show nI (T.length - t.length) - (1 : Int32) = nI (T.length - t.length - 1) from n_sub _ 1]; congr 1
      obtain ⟨b1, b2⟩ := bad (ax_ui (ax_ui w 0 3 (w.1 0 3 + 1)) 0 3 (w.1 0 3 + 1 - 1)) (w.1 0 3 + 1 - 1) (t.length + 1) ((fw.ui ⟨rfl, Or.inl rfl⟩).ui ⟨rfl, Or.inl rfl⟩) (by rw [ui_idx (by omega), ui_idx (by omega)]; exact w4) ep
      refine ⟨b1, ?_⟩
      unfold nm
      rw [if_pos a, en, if_neg b, if_neg z']
      exact ⟨⟨_, rfl⟩, b2⟩
    · rw [e1] at z; exact absurd z z1
    · rw [e1] at z; exact absurd z z1
    · rw [e1] at z; exact absurd z z1
    · rw [e1] at z; exact absurd z z1
    · rw [e1] at z; exact absurd z z1
  case pos =>
  obtain ⟨c2, t2, ht2⟩ : ∃ c t', t = c :: t' := by
    cases e : t with
    | nil => rw [e] at b; cases b
    | cons c t => exact ⟨c, t, rfl⟩
  have htn : t.length = t2.length + 1 := by rw [ht2]; rfl
  have dgc2 : dg c2 = true := by rw [ht2] at b; exact b
  have hc2 : 48 ≤ c2 ∧ c2 ≤ 57 := dg_iff.mp dgc2
  have hz1 : ¬ hdI t < (48 : Int32) ∧ ¬ (57 : Int32) < hdI t := hdt.mpr b
  have w3' := w3
  rw [ht2] at w3'
  obtain ⟨-, -, w5, -⟩ := w3'.cons hT
  rw [ui_same] at w5
  have e2 : (if w.1 0 2 ≤ w.1 0 3 + 1 + 1 then (-1 : Int32) else w.1 1 (Int32.toNatClampNeg (w.1 0 3 + 1 + 1))) = hdI t2 := by
    have := w5.hd hT
    rw [ui_same, ui_idx (show 2 ≠ 3 by omega), ui_idx (show 2 ≠ 3 by omega), ui_cell (show 1 ≠ 0 by omega), ui_cell (show 1 ≠ 0 by omega)] at this; exact this
  have i2 : ¬ w.1 0 2 ≤ w.1 0 3 + 1 + 1 → vp_in (w.1 0 3 + 1 + 1) 240 := by
    have := w5.in_ hT
    rw [ui_same, ui_idx (show 2 ≠ 3 by omega), ui_idx (show 2 ≠ 3 by omega)] at this; exact this
  have at2 : w.1 0 3 + 1 + 1 = nI (T.length - t2.length) := by
    have := w5.at
    rw [ui_same] at this; exact this
  have hdt2 := hdI_dg (r := t2) (fun c hc => ht c (by rw [ht2]; exact List.mem_cons_of_mem _ hc))
  have hv1 : (10 : Int32) * (hdI (sg r) - 48) + hdI t - 48 = nI (10 * (c - 48) + (c2 - 48)) := by
    rw [hv0, ht2]
    show (10 : Int32) * nI (c - 48) + nI c2 - 48 = _
    rw [show (10 : Int32) * nI (c - 48) = nI (10 * (c - 48)) from n_mul 10 _, n_add, show nI (10 * (c - 48) + c2) - (48 : Int32) = nI (10 * (c - 48) + c2 - 48) from n_sub _ 48]
    congr 1; omega
  have en : numA 2 0 (sg r) = (10 * (c - 48) + (c2 - 48), t2) := by
    rw [hst, numA, if_pos dgc, ht2, numA, if_pos dgc2, numA, Nat.mul_zero, Nat.zero_add]
  have q : (¬ nI (10 * (c - 48) + (c2 - 48)) < nI lo ∧ ¬ nI hi < nI (10 * (c - 48) + (c2 - 48))) ↔ (lo ≤ 10 * (c - 48) + (c2 - 48) ∧ 10 * (c - 48) + (c2 - 48) ≤ hi) := by
    rw [n_lt (10 * (c - 48) + (c2 - 48)) lo, n_lt hi (10 * (c - 48) + (c2 - 48))]; omega
  refine ⟨_, rfl, s_X12_number_4 (by omega) w _ _ _ (fun _ z => i0 z) (fun _ z => i1 z) (fun _ _ z => i1 z) (fun _ z => ?_) (fun _ z => ?_) (fun _ _ z => i1 z) (fun _ _ z => i2 z) ?_ ?_ ?_ (fun z => absurd hz0 z)⟩
  · rw [e1] at z; exact absurd hz1 z
  · rw [e1] at z; exact absurd hz1 z
  · rw [e0, e1, e2, hv1]
    intro _ _ y z
    have hb : ¬ dgs t2 = true := fun k => y (hdt2.mpr k)
    refine ⟨(fw.ui ⟨rfl, Or.inl rfl⟩).ui ⟨rfl, Or.inl rfl⟩, ?_⟩
    unfold nm
    rw [if_pos a, en, if_neg hb, if_pos (q.mp z)]
    exact ⟨rfl, w5, by rw [ui_idx (by omega), ui_idx (by omega)]; exact w4⟩
  · rw [e0, e1, e2, hv1]
    intro _ _ y z
    have hb : ¬ dgs t2 = true := fun k => y (hdt2.mpr k)
    have ep : w.1 0 3 + 1 + 1 - 1 = nI (T.length - (t2.length + 1)) := by
      rw [at2, show nI (T.length - t2.length) - (1 : Int32) = nI (T.length - t2.length - 1) from n_sub _ 1]; congr 1
    obtain ⟨b1, b2⟩ := bad (ax_ui (ax_ui (ax_ui w 0 3 (w.1 0 3 + 1)) 0 3 (w.1 0 3 + 1 + 1)) 0 3 (w.1 0 3 + 1 + 1 - 1)) (w.1 0 3 + 1 + 1 - 1) (t2.length + 1) (((fw.ui ⟨rfl, Or.inl rfl⟩).ui ⟨rfl, Or.inl rfl⟩).ui ⟨rfl, Or.inl rfl⟩) (by rw [ui_idx (by omega), ui_idx (by omega), ui_idx (by omega)]; exact w4) ep
    refine ⟨b1, ?_⟩
    unfold nm
    rw [if_pos a, en, if_neg hb, if_neg (fun k => z (q.mpr k))]
    exact ⟨⟨_, rfl⟩, b2⟩
  · rw [e0, e1, e2, hv1]
    intro _ _ y
    have hb : dgs t2 = true := hdt2.mp y
    obtain ⟨b1, b2⟩ := bad (ax_ui (ax_ui w 0 3 (w.1 0 3 + 1)) 0 3 (w.1 0 3 + 1 + 1)) (w.1 0 3 + 1 + 1) t2.length ((fw.ui ⟨rfl, Or.inl rfl⟩).ui ⟨rfl, Or.inl rfl⟩) (by rw [ui_idx (by omega), ui_idx (by omega)]; exact w4) at2
    refine ⟨b1, ?_⟩
    unfold nm
    rw [if_pos a, en, if_pos hb]
    exact ⟨⟨_, rfl⟩, b2⟩
