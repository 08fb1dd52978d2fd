/-! ===== EARTH ===== -/
theorem le_it_nb {lt lt' : Nat → Int} {x : Nat × Nat} (s : List Int) (hx : x ≠ (1, 2)) (h : ∀ j, j ≠ 2 → lt j = lt' j) : le_it lt x s = le_it lt' x s := by
  unfold le_it
  by_cases h0 : x.1 = 0
  · rw [if_pos h0, if_pos h0]
  · rw [if_neg h0, if_neg h0]
    by_cases h1 : x.1 = 1
    · rw [if_pos h1, if_pos h1, h x.2 (fun z => hx (Prod.ext h1 z))]
    · rw [if_neg h1, if_neg h1]
theorem le_run_nb {lt lt' : Nat → Int} (h : ∀ j, j ≠ 2 → lt j = lt' j) : ∀ (its : List (Nat × Nat)) (s : List Int), (∀ x ∈ its, x ≠ (1, 2)) → le_run lt its s = le_run lt' its s
  | [], s, _ => rfl
  | x :: t, s, hx => by
    rw [le_run, le_run, le_it_nb s (hx x List.mem_cons_self) h]
    exact le_run_nb h t _ (fun y hy => hx y (List.mem_cons_of_mem _ hy))
theorem lw_val_nb {lt lt' : Nat → Int} (h : ∀ j, j ≠ 2 → lt j = lt' j) : ∀ (law : List (List (Nat × Nat) × List (Nat × Nat))), (∀ c ∈ law, ∀ x, x ∈ c.1 ∨ x ∈ c.2 → x ≠ (1, 2)) → lw_val lt law = lw_val lt' law
  | [], _ => rfl
  | (cd, sm) :: t, hx => by
    have h1 := hx (cd, sm) List.mem_cons_self
    rw [lw_val, lw_val, le_run_nb h cd [] (fun x hx => h1 x (Or.inl hx)), le_run_nb h sm [] (fun x hx => h1 x (Or.inr hx)), lw_val_nb h t (fun c hc => hx c (List.mem_cons_of_mem _ hc))]
theorem lw_enc_mem {c : List (Nat × Nat) × List (Nat × Nat)} {x : Nat × Nat} (hx : x ∈ c.1 ∨ x ∈ c.2) : ∀ (law : List (List (Nat × Nat) × List (Nat × Nat))) (o : Nat), c ∈ law → x.1 + 16 * x.2 ∈ lw_enc o law
  | [], _, h => absurd h List.not_mem_nil
  | b :: t, o, h => by
    rw [lw_enc, List.mem_append]
    rcases List.mem_cons.mp h with rfl | h
    · left
      unfold lw_cl
      rw [List.mem_append]
      rcases hx with hx | hx
      · left
        have hne : ¬ c.1 = [] := fun e => by rw [e] at hx; exact absurd hx List.not_mem_nil
        rw [if_neg hne, List.mem_append]
        left; exact List.mem_map.mpr ⟨x, hx, rfl⟩
      · right
        rw [List.mem_append]
        left; exact List.mem_map.mpr ⟨x, hx, rfl⟩
    · right; exact lw_enc_mem hx t _ h
def rbs (ho : Nat) (L : Nat → List (List (Nat × Nat) × List (Nat × Nat))) : Bool := decide (ho ≠ 0 ∧ 33 ∈ lw_enc 0 (L (ho - 1)))
theorem kpf_nb {E D D' : Nat → Nat} {dry ho : Nat} {L : Nat → List (List (Nat × Nat) × List (Nat × Nat))} (h : rbs ho L = false) : kpf E D' dry ho L = kpf E D dry ho L := by
  funext h' p c
  unfold kpf
  by_cases h0 : ho = 0
  · rw [if_pos h0, if_pos h0]
  · rw [if_neg h0, if_neg h0]
    have h3 : 33 ∉ lw_enc 0 (L (ho - 1)) := fun z => absurd ⟨h0, z⟩ (of_decide_eq_false h)
    rw [lw_val_nb (lt := ltt p (E (4 * h' + 1)) (D' h') (E (4 * h' + 3)) c dry) (lt' := ltt p (E (4 * h' + 1)) (D h') (E (4 * h' + 3)) c dry) (fun j hj => by unfold ltt; rw [if_neg hj, if_neg hj]) (L (ho - 1)) (fun c hc x hx e => h3 (by have := lw_enc_mem hx (L (ho - 1)) 0 hc; rw [e] at this; exact this))]
theorem ct_X7_readBears {d : Nat} (hd : 1 ≤ d) {σ : ax_S} {lw ho : Nat} {L : Nat → List (List (Nat × Nat) × List (Nat × Nat))} (hlw : lwok lw ho L) (hlC : lwC σ lw ho L) :
    ax_Ct shC d mX7_readBears [ax_r 4] (fun r u => r = some (ax_i (if rbs ho L then 1 else 0)) ∧ u = σ) σ := by
  obtain ⟨d, rfl⟩ : ∃ e, d = e + 1 := ⟨d - 1, by omega⟩
  obtain ⟨c1, c2, c3⟩ := hlC
  have hw := hlw.1
  have hho := hlw.2.1
  refine ax_Ct.of (lv := [some (ax_r 4), none]) (by decide +kernel) (fun ad => Nat.le_of_ble_eq_true rfl) (fun ad => rfl) ?_
  refine s_X7_readBears_0 (by omega) σ ?_
  by_cases h0 : ho = 0
  · have g : σ.1 4 5 < 0 := by rw [c2, h0]; decide
    refine s_X7_readBears_2 (by omega) σ _ (fun _ => ⟨?_, rfl⟩) (fun c => absurd g c) (fun c => absurd g c) (fun c => absurd g c) (fun c => absurd g c) (fun c => absurd g c) (fun c => absurd g c)
    have : rbs ho L = false := decide_eq_false (fun z => z.1 h0)
    rw [this]; rfl
  · have e45 : σ.1 4 5 = nI (ho - 1) := by rw [c2]; exact if_neg h0
    have g1 : ¬ σ.1 4 5 < 0 := by rw [e45]; exact n_nn _
    have g2 : ¬ σ.1 4 4 ≤ σ.1 4 5 := by rw [c1, e45]; exact fun z => absurd ((n_le _ _).mp z) (by omega)
    obtain ⟨l1, l2, l3⟩ := c3 (ho - 1) (by omega)
    have e20 : σ.1 20 (Int32.toNatClampNeg (σ.1 4 5)) = nI (lw_enc 0 (L (ho - 1))).length := by rw [e45, n_tn _]; exact l1
    have loop := lp_up (m := (lw_enc 0 (L (ho - 1))).length) (P := fun i => (∀ j, j < i → (lw_enc 0 (L (ho - 1)))[j]? ≠ some 33) → ax_W shC (d + 1) mX7_readBears (fun r u => r = some (ax_i (if rbs ho L then 1 else 0)) ∧ u = σ) 2 [some (ax_r 4), some (ax_i (nI i))] [] σ) ?_ ?_
    · exact loop 0 (by omega) (fun j hj => absurd hj (by omega))
    · intro hno
      have g3 : σ.1 20 (Int32.toNatClampNeg (σ.1 4 5)) ≤ nI (lw_enc 0 (L (ho - 1))).length := by rw [e20]; exact (n_le _ _).mpr (Nat.le_refl _)
      refine s_X7_readBears_2 (by omega) σ _ (fun c => absurd c g1) (fun _ c => absurd c g2) (fun _ _ => by rw [e45]; exact n_in _ _) (fun _ _ _ => ⟨?_, rfl⟩) (fun _ _ c => absurd g3 c) (fun _ _ c => absurd g3 c) (fun _ _ c => absurd g3 c)
      have : rbs ho L = false := decide_eq_false (fun z => by
        obtain ⟨j, hj⟩ := List.getElem?_of_mem z.2
        exact hno j ((List.getElem?_eq_some_iff.mp hj).1) hj)
      rw [this]; rfl
    · intro i hi ih hno
      have g3 : ¬ σ.1 20 (Int32.toNatClampNeg (σ.1 4 5)) ≤ nI i := by rw [e20]; exact fun z => absurd ((n_le _ _).mp z) (by omega)
      have ei := List.getElem?_eq_getElem hi
      obtain ⟨q1, q2⟩ := l3 i _ ei
      have e19 : σ.1 19 (Int32.toNatClampNeg (σ.1 4 5 * (240 : Int32) + nI i)) = nI (lw_enc 0 (L (ho - 1)))[i] := by
        rw [e45, show nI (ho - 1) * (240 : Int32) = nI ((ho - 1) * 240) from n_mul _ 240, n_add, n_tn _]; exact q1
      refine s_X7_readBears_2 (by omega) σ _ (fun c => absurd c g1) (fun _ c => absurd c g2) (fun _ _ => by rw [e45]; exact n_in _ _) (fun _ _ c => absurd c g3) (fun _ _ _ => by rw [e45, show nI (ho - 1) * (240 : Int32) = nI ((ho - 1) * 240) from n_mul _ 240, n_add]; exact n_in _ _) (fun _ _ _ c => ?_) (fun _ _ _ c => ⟨?_, rfl⟩)
      · rw [e19] at c
        rw [nI_1]
        refine ih (fun j hj => ?_)
        by_cases e : j = i
        · rw [e, ei]
          intro z
          exact c ((n_eq _ 33).mpr (Option.some.inj z))
        · exact hno j (by omega)
      · rw [e19] at c
        have := (n_eq _ 33).mp (Classical.not_not.mp c)
        have hm : 33 ∈ lw_enc 0 (L (ho - 1)) := by rw [← this]; exact List.getElem_mem hi
        have : rbs ho L = true := decide_eq_true ⟨h0, hm⟩
        rw [this]; rfl
/-- a house is earthed -/
def eD (D : Nat → Nat) (h : Nat) : Nat → Nat := dset D h (min 99 (D h + 10))
theorem eD_ne {D : Nat → Nat} {h j : Nat} (e : j ≠ h) : eD D h j = D j := dset_ne e
theorem eD_eq (D : Nat → Nat) (h : Nat) : eD D h h = min 99 (D h + 10) := dset_eq _ _ _
theorem eD_ge {D : Nat → Nat} {h k : Nat} (hk : D k ≤ 99) : D k ≤ eD D h k := by
  by_cases e : k = h
  · rw [e, eD_eq]; rw [e] at hk; omega
  · rw [eD_ne e]; exact Nat.le_refl _
theorem eD_ok {n : Nat} {E D : Nat → Nat} {dry h : Nat} (hb : bk_ok n E D dry) (hh : h < n) : bk_ok n E (eD D h) dry := by
  obtain ⟨h1, h2, h3, h4, h5, h6, h7, h8, h9⟩ := hb
  have e : ∀ j, 8 ≤ j → eD D h j = D j := fun j hj => eD_ne (by omega)
  refine ⟨h1, h2, h3, by rw [e 84 (by omega)]; exact h4, by rw [e 85 (by omega)]; exact h5, by rw [e 86 (by omega)]; exact h6, by rw [e 84 (by omega)]; exact h7, fun k hk => ?_, fun w hw => ?_⟩
  · obtain ⟨q1, q2, q3, q4, q5, q6, q7⟩ := h8 k hk
    refine ⟨q1, q2, q3, q4, ?_, ?_, by rw [e (8 + k) (by omega)]; exact q7⟩
    · have := eD_ge (h := h) q6; omega
    · by_cases z : k = h
      · rw [z, eD_eq]; omega
      · rw [eD_ne z]; exact q6
  · rw [e 84 (by omega)] at hw
    have ew : ∀ q, bk_w (eD D h) w q = bk_w D w q := fun q => e _ (by omega)
    rw [ew, ew, ew, ew]; exact h9 w hw
theorem eD_C {u : ax_S} {n : Nat} {E D : Nat → Nat} {dry h : Nat} (hb : bk_ok n E D dry) (hh : h < n) (hC : bk_C u n E D dry) : bk_C (ax_ui u 25 h (nI (min 99 (D h + 10)))) n E (eD D h) dry := by
  have hn := hb.2.1
  obtain ⟨c1, c2, c3, c4, c5, c6, c7, c8, c9⟩ := hC
  have e : ∀ j, 8 ≤ j → eD D h j = D j := fun j hj => eD_ne (by omega)
  have ew : ∀ w q, bk_w (eD D h) w q = bk_w D w q := fun w q => e _ (by omega)
  have uc : ∀ c i, c ≠ 25 → (ax_ui u 25 h (nI (min 99 (D h + 10)))).1 c i = u.1 c i := fun c i hc => ui_cell hc
  refine ⟨by rw [uc _ _ (by omega)]; exact c1, by rw [uc _ _ (by omega), e 84 (by omega)]; exact c2, by rw [uc _ _ (by omega), e 85 (by omega)]; exact c3, by rw [uc _ _ (by omega)]; exact c4, by rw [uc _ _ (by omega), e 86 (by omega)]; exact c5, fun k hk => ?_, fun w hw => ?_, fun i hi => ?_, fun k hk w hw => ?_⟩
  · obtain ⟨q1, q2, q3, q4, q5⟩ := c6 k hk
    refine ⟨by rw [uc _ _ (by omega)]; exact q1, by rw [uc _ _ (by omega)]; exact q2, by rw [uc _ _ (by omega)]; exact q3, ?_, by rw [uc _ _ (by omega), e (8 + k) (by omega)]; exact q5⟩
    by_cases z : k = h
    · rw [z, ui_same, eD_eq]
    · rw [ui_idx z, eD_ne z]; exact q4
  · rw [e 84 (by omega)] at hw
    rw [uc _ _ (by omega), uc _ _ (by omega), uc _ _ (by omega), ew, ew, ew]; exact c7 w hw
  · rw [uc _ _ (by omega), e 84 (by omega), ew]; exact c8 i hi
  · rw [e 84 (by omega)] at hw
    rw [uc _ _ (by omega), ew, ew]; exact c9 k hk w hw
theorem eD_lv (D : Nat → Nat) {h : Nat} (hh : h < 8) : bk_lv (eD D h) = bk_lv D := by
  funext w
  unfold bk_lv
  rw [show bk_w (eD D h) w 3 = bk_w D w 3 from eD_ne (by omega), show bk_w (eD D h) w 2 = bk_w D w 2 from eD_ne (by omega)]
/-- somebody burns by v, house h earthed -/
def ew (n : Nat) (E D : Nat → Nat) (dry ho : Nat) (L : Nat → List (List (Nat × Nat) × List (Nat × Nat))) (h v : Nat) : Bool := wkq n (eD D h) (kpf E (eD D h) dry ho L) v
theorem n_earth {a : Nat} (ha : a ≤ 99) : (if nI a + (10 : Int32) < (99 : Int32) then nI a + (10 : Int32) else (99 : Int32)) = nI (min 99 (a + 10)) := n_up a 10 99
theorem ct_X11_standingAfresh {d : Nat} (hd : 13 ≤ d) {σ : ax_S} {n : Nat} {E D : Nat → Nat} {dry lw ho : Nat} {L : Nat → List (List (Nat × Nat) × List (Nat × Nat))} (hb : bk_ok n E D dry) (hC : bk_C σ n E D dry) (hlw : lwok lw ho L) (hlC : lwC σ lw ho L) (q : Nat → Bool) {v : Nat} (hv1 : 1 ≤ v) (hv : v ≤ 999) :
    ax_Ct shC d mX11_standingAfresh [ax_r 0, ax_i (pn_set n q), ax_i (nI v)] (fun r u => r = some (ax_i (pn_set n (fun h => q h && !ew n E D dry ho L h v))) ∧ fo scr u σ) σ := by
  obtain ⟨d, rfl⟩ : ∃ e, d = e + 1 := ⟨d - 1, by omega⟩
  have hn := hb.2.1
  have h84 := hb.2.2.2.1
  refine ax_Ct.of (lv := [some (ax_r 0), some (ax_i (pn_set n q)), some (ax_i (nI v)), none, none, none, none]) (by decide +kernel) (fun ad => Nat.le_of_ble_eq_true rfl) (fun ad => rfl) ?_
  refine s_X11_standingAfresh_0 (by omega) σ _ _ ?_
  refine (ct_live (by omega) hb hC).mono ?_
  rintro r u ⟨rfl, rfl⟩
  refine ⟨_, rfl, s_X11_standingAfresh_7 (by omega) u _ _ _ ?_⟩
  have loop := lp_up (m := n) (P := fun k => ∀ t, fo scr t u → ax_W shC (d + 1) mX11_standingAfresh (fun r w => r = some (ax_i (pn_set n (fun h => q h && !ew n E D dry ho L h v))) ∧ fo scr w u) 14 [some (ax_r 0), some (ax_i (pn_set n q)), some (ax_i (nI v)), some (ax_i (pn_set (D 84) (bk_lv D))), some (ax_i (pn_set n (fun h => q h && !(decide (h < k) && ew n E D dry ho L h v)))), some (ax_i (nI k)), none] [] t) ?_ ?_
  · have := loop 0 (by omega) u fo.rfl'
    have e : pn_set n (fun h => q h && !(decide (h < 0) && ew n E D dry ho L h v)) = pn_set n q := pn_set_cong (fun i _ => by simp)
    rw [e] at this; exact this
  · intro t ht
    have e9 : t.1 5 9 = nI n := by rw [ht.1 5 9 (by unfold scr; omega)]; exact hC.1
    have g : t.1 5 9 ≤ nI n := by rw [e9]; exact (n_le _ _).mpr (Nat.le_refl _)
    refine s_X11_standingAfresh_14 (by omega) t _ _ _ _ _ (fun _ => ⟨?_, ht⟩) (fun c => absurd g c) (fun c => absurd g c) (fun c => absurd g c)
    rw [pn_set_cong (q := fun h => q h && !ew n E D dry ho L h v) (fun i hi => by simp only [decide_eq_true hi, Bool.true_and])]
  · intro k hk ih t ht
    have e9 : t.1 5 9 = nI n := by rw [ht.1 5 9 (by unfold scr; omega)]; exact hC.1
    have g : ¬ t.1 5 9 ≤ nI k := by rw [e9]; exact fun z => absurd ((n_le _ _).mp z) (by omega)
    have hbit := pn_bitOf0 (pn_set n q) k (by omega)
    rw [pn_set_bt q n (by omega) k (by omega), decide_eq_true hk, Bool.true_and] at hbit
    have hDk := (hb.2.2.2.2.2.2.2.1 k hk).2.2.2.2.2.1
    have e25 : t.1 25 (Int32.toNatClampNeg (nI k)) = nI (D k) := by rw [n_tn k, ht.1 25 k (by unfold scr; omega)]; exact (hC.2.2.2.2.2.1 k hk).2.2.2.1
    refine s_X11_standingAfresh_14 (by omega) t _ _ _ _ _ (fun c => absurd c g) (fun _ _ => n_in _ _) (fun _ c => ?_) (fun _ c => ?_)
    · rw [e25, n_earth hDk, n_tn k]
      have tC : bk_C t n E D dry := hC.to ht.1 (fun c i h => by unfold scr at h; omega)
      have vC := eD_C hb hk tC
      have vok := eD_ok hb hk
      have vlw : lwC (ax_ui t 25 k (nI (min 99 (D k + 10)))) lw ho L := (hlC.to ht.1 (fun c i hs => by unfold scr at hs; omega)).to (fo.rfl'.ui (S := fun c _ => c = 25) rfl : fo (fun c _ => c = 25) _ t).1 (by omega)
      have vst := st_C vok vC
      rw [eD_ne (D := D) (h := k) (show 84 ≠ k by omega), eD_lv D (show k < 8 by omega)] at vst
      refine (ct_X11_weakestBy (by omega) (st_ok vok (kpf_le E (eD D k) dry ho L)) vst (skK_of hlw (st_H vok vC) vlw hn) fo.rfl' hv1 hv).mono ?_
      rintro r w ⟨rfl, w1⟩
      have fin : fo scr (ax_ui w 25 (Int32.toNatClampNeg (nI k)) (nI (D k))) u := by
        refine ⟨fun c i hc => ?_, ?_⟩
        · rw [n_tn k, ui_any]
          by_cases z : c = 25 ∧ i = k
          · rw [if_pos z, z.1, z.2]; exact (hC.2.2.2.2.2.1 k hk).2.2.2.1.symm
          · rw [if_neg z, w1.1 c i hc, ui_any, if_neg z]; exact ht.1 c i hc
        · show w.2 = u.2
          rw [w1.2]; exact ht.2
      refine ⟨_, rfl, s_X11_standingAfresh_75 (by omega) w _ _ _ _ _ _ _ (fun _ => n_in _ _) (fun c => ?_) (fun _ => n_in _ _) (fun c => ?_)⟩
      · have z : ew n E D dry ho L k v = false := decide_eq_false (not_not_intro c)
        rw [nI_1]
        have := ih _ fin
        have e : pn_set n (fun h => q h && !(decide (h < k + 1) && ew n E D dry ho L h v)) = pn_set n (fun h => q h && !(decide (h < k) && ew n E D dry ho L h v)) := pn_set_cong (fun i _ => by
          by_cases y : i = k
          · rw [y, z, Bool.and_false, Bool.and_false]
          · have : (i < k + 1) ↔ i < k := by omega
            simp only [this])
        rw [e] at this; exact this
      · have z : ew n E D dry ho L k v = true := decide_eq_true c
        rw [nI_1]
        have := ih _ fin
        have e : pn_set n (fun h => q h && !(decide (h < k) && ew n E D dry ho L h v)) &&& (((1 : Int32) <<< (nI k &&& 31)) ^^^ (-1)) = pn_set n (fun h => q h && !(decide (h < k + 1) && ew n E D dry ho L h v)) := b_ext fun i hi => by
          rw [b_and, pn_not _ i hi, pn_one k (by omega) i hi, pn_set_bt _ n (by omega) i hi, pn_set_bt _ n (by omega) i hi]
          by_cases y : i = k
          · rw [y, z]; simp
          · have : (i < k + 1) ↔ i < k := by omega
            simp only [this, decide_eq_false y, Bool.not_false, Bool.and_true]
        rw [e]; exact this
    · have z : q k = false := hbit.mp (Classical.not_not.mp c)
      rw [nI_1]
      have := ih t ht
      have e : pn_set n (fun h => q h && !(decide (h < k + 1) && ew n E D dry ho L h v)) = pn_set n (fun h => q h && !(decide (h < k) && ew n E D dry ho L h v)) := pn_set_cong (fun i _ => by
        by_cases y : i = k
        · rw [y, z, Bool.false_and, Bool.false_and]
        · have : (i < k + 1) ↔ i < k := by omega
          simp only [this])
      rw [e] at this; exact this
/-! all strokes go alike -/
def rem (n : Nat) (D : Nat → Nat) (kp : Nat → Nat → Nat → Nat) (v s h : Nat) : Bool := decide (¬ dk_bu n D kp s v = 0) && (decide (¬ dk_bu n D kp s v = (1 : Int32) <<< (nI h &&& 31)) || decide (min 99 (D h + 10) < (dk_run D kp s v).1 h))
theorem eD_run (D : Nat → Nat) {h : Nat} (hh : h < 8) (kp : Nat → Nat → Nat → Nat) (s v : Nat) : dk_run (eD D h) kp s v = dk_run D kp s v := by
  have e : ∀ j, 8 ≤ j → eD D h j = D j := fun j hj => eD_ne (by omega)
  have ew : ∀ w q, bk_w (eD D h) w q = bk_w D w q := fun w q => e _ (by omega)
  have el : dk_lv (eD D h) = dk_lv D := by
    funext w
    unfold dk_lv
    rw [e 84 (by omega), eD_lv D hh]
  unfold dk_run
  rw [el]
  simp only [ew]
theorem rem_eq {n : Nat} {E D : Nat → Nat} {dry : Nat} (hb : bk_ok n E D dry) (kp : Nat → Nat → Nat → Nat) {v s h : Nat} (hh : h < n) : rem n D kp v s h = wkp n (eD D h) kp v s := by
  have hn := hb.2.1
  have hD : ∀ k, k < n → D k ≤ 99 := fun k hk => (hb.2.2.2.2.2.2.2.1 k hk).2.2.2.2.2.1
  have hz : ∀ (p : Nat → Bool), pn_set n p = 0 ↔ ∀ k, k < n → p k = false := fun p => by
    constructor
    · intro e k hk
      have := pn_set_bt p n (by omega) k (by omega)
      rw [e, b_0, decide_eq_true hk, Bool.true_and] at this; exact this.symm
    · intro e
      exact b_ext fun i hi => by
        rw [pn_set_bt p n (by omega) i hi, b_0]
        by_cases z : i < n
        · rw [e i z, Bool.and_false]
        · rw [decide_eq_false z]; rfl
  have h1 : dk_bu n D kp s v = (1 : Int32) <<< (nI h &&& 31) ↔ ∀ k, k < n → (D k < (dk_run D kp s v).1 k ↔ k = h) := by
    rw [set_one hn hh]
    constructor
    · intro e k hk
      have := set_inj hn e k hk
      rw [decide_eq_decide] at this; exact this
    · intro e
      exact pn_set_cong (fun k hk => decide_eq_decide.mpr (e k hk))
  have h2 : dk_bu n (eD D h) kp s v = 0 ↔ ∀ k, k < n → ¬ eD D h k < (dk_run D kp s v).1 k := by
    unfold dk_bu
    rw [eD_run D (by omega), hz]
    exact forall_congr' fun k => forall_congr' fun _ => decide_eq_false_iff_not
  have h3 : dk_bu n D kp s v = 0 ↔ ∀ k, k < n → ¬ D k < (dk_run D kp s v).1 k := by
    unfold dk_bu
    rw [hz]
    exact forall_congr' fun k => forall_congr' fun _ => decide_eq_false_iff_not
  unfold wkp
  apply Bool.eq_iff_iff.mpr
  unfold rem
  rw [Bool.and_eq_true, Bool.or_eq_true, decide_eq_true_eq, decide_eq_true_eq, decide_eq_true_eq, decide_eq_true_eq]
  constructor
  · rintro ⟨q1, q2⟩ q3
    rw [h2] at q3
    have k1 : ∀ k, k < n → k ≠ h → ¬ D k < (dk_run D kp s v).1 k := fun k hk e => by
      have := q3 k hk; rw [eD_ne e] at this; exact this
    have k2 := q3 h hh
    rw [eD_eq] at k2
    rcases q2 with q2 | q2
    · apply q2
      rw [h1]
      intro k hk
      constructor
      · intro y; exact Classical.byContradiction (fun e => k1 k hk e y)
      · intro e
        rw [e]
        refine Classical.byContradiction (fun y => q1 (h3.mpr (fun k hk => ?_)))
        by_cases e2 : k = h
        · rw [e2]; exact y
        · exact k1 k hk e2
    · exact k2 q2
  · intro q
    refine ⟨fun z => q (h2.mpr (fun k hk y => ?_)), ?_⟩
    · have := h3.mp z k hk
      have := eD_ge (h := h) (hD k hk)
      omega
    · refine Classical.byContradiction (fun y => q (h2.mpr (fun k hk => ?_)))
      have y1 : dk_bu n D kp s v = (1 : Int32) <<< (nI h &&& 31) := Classical.not_not.mp (fun z => y (Or.inl z))
      have y2 : ¬ min 99 (D h + 10) < (dk_run D kp s v).1 h := fun z => y (Or.inr z)
      by_cases e : k = h
      · rw [e, eD_eq]; exact y2
      · rw [eD_ne e]
        exact fun z => e ((h1.mp y1 k hk).mp z)
def exs (p : Nat → Nat → Bool) (h : Nat) : Nat → Bool
  | 0 => false
  | s + 1 => exs p h s || p s h
theorem exs_f {p : Nat → Nat → Bool} {h : Nat} : ∀ {n : Nat}, exs p h n = false ↔ ∀ s, s < n → p s h = false
  | 0 => ⟨fun _ s hs => absurd hs (by omega), fun _ => rfl⟩
  | n + 1 => by
    rw [exs, Bool.or_eq_false_iff, exs_f]
    constructor
    · rintro ⟨h1, h2⟩ s hs
      by_cases e : s = n
      · rw [e]; exact h2
      · exact h1 s (by omega)
    · intro h; exact ⟨fun s hs => h s (by omega), h n (by omega)⟩
