/-! ===== DECADES: strokes by chance ===== -/
theorem dr_p (x : Int64) (m : Nat) (h1 : 1 ≤ m := by omega) (h2 : m < 2147483648 := by omega) :
    (if (1 : Int32) ≤ nI m then (Int64.toInt32 ((((Int64.toUInt64 x) >>> ((Int64.toUInt64 (Int32.toInt64 (33 : Int32))) &&& Int64.toUInt64 63)).toInt64) - (((Int64.toUInt64 x) >>> ((Int64.toUInt64 (Int32.toInt64 (33 : Int32))) &&& Int64.toUInt64 63)).toInt64) / (Int32.toInt64 (nI m)) * (Int32.toInt64 (nI m)))) else (0 : Int32)) = nI (dU x % m) := by
  rw [if_pos (show (1 : Int32) ≤ nI m from (n_le 1 m).mpr h1), dr_eq x m h1 h2]
theorem dX_f (y : Int64) : y * (6364136223846793005 : Int64) + (1442695040888963407 : Int64) = dX y := rfl
theorem RR.belt2 {j : Nat} {σ τ : ax_S} (h : RR j σ τ) : ∃ (n : Nat) (E D : Nat → Nat) (dry lw ho : Nat) (L : Nat → List (List (Nat × Nat) × List (Nat × Nat))) (a T : Nat) (H : Nat → Nat → Nat) (st ki : Nat),
    bk_ok n E D dry ∧ lg_ok D ∧ lwok lw ho L ∧ hi_ok n a E dry H ∧ T ≤ 60 * (j + 1) ∧ CB σ n E D dry a T H ∧ MB τ n E D dry a H ∧ lwC σ lw ho L ∧ lwM τ lw ho L ∧ st ≤ 9 ∧ ki ≤ 9 ∧ (σ.1 0 14 = nI st ∧ σ.1 0 15 = nI ki) ∧ (τ.1 0 28 = nI st ∧ τ.1 0 29 = nI ki) ∧
    ∀ (D' : Nat → Nat) (a' T' : Nat) (H' : Nat → Nat → Nat) (u w : ax_S), bk_ok n E D' dry → lg_ok D' → hi_ok n a' E dry H' → T' ≤ 60 * (j + 2) → fk SB u σ → k17 u σ → fk SM w τ → CB u n E D' dry a' T' H' → MB w n E D' dry a' H' → RR (j + 1) u w := by
  obtain ⟨tl, tp, n, E, D, dry, lw, ho, L, st, ki, rf, nc, no, tc, te, a, T, H, im, I, ⟨o1, o2, o3, o4, o5, o6, o7, o8, o9, o10, o11⟩, ⟨c1, c2, c3, c4, c5, c6, c7, c8, c9⟩, ⟨m1, m2, m3, m4, m5, m6, m7, m8⟩⟩ := h
  refine ⟨n, E, D, dry, lw, ho, L, a, T, H, st, ki, o2, o3, o4, o9, o11, ⟨c2, c3, c8⟩, ⟨m2, m7⟩, c4, m3, o5, o6, ⟨c5.1, c5.2.1⟩, ⟨m4.1, m4.2.1⟩, ?_⟩
  rintro D' a' T' H' u w p1 p2 p3 p4 fC hk fM ⟨q1, q2, q3⟩ ⟨q4, q5⟩
  refine ⟨tl, tp, n, E, D', dry, lw, ho, L, st, ki, rf, nc, no, tc, te, a', T', H', im, I, ⟨o1, p1, p2, o4, o5, o6, o7, o8, p3, o10, by omega⟩, ⟨c1.to fC ?_, q1, q2, c4.to fC ?_, c5.to fC ?_, c6.to fC ?_, c7.to fC hk ?_, q3, c9.to fC ?_⟩, ⟨m1.to fM ?_, q4, m3.to fM ?_, m4.to fM ?_, m5.to fM ?_, m6.to fM ?_, q5, m8.to fM ?_⟩⟩
  all_goals (intro c i hs; first | (unfold SB rd_S scC scr at hs; omega) | (unfold SM scM scm at hs; omega))
theorem fk.trans {S : Nat → Nat → Prop} {u v w : ax_S} (h1 : fk S u v) (h2 : fk S v w) : fk S u w := fun c i h => (h1 c i h).trans (h2 c i h)
theorem fk.mono {S T : Nat → Nat → Prop} {u v : ax_S} (h : fk S u v) (hST : ∀ c i, S c i → T c i) : fk T u v := fun c i hn => h c i (fun z => hn (hST c i z))
theorem k17.trans {u v w : ax_S} (h1 : k17 u v) (h2 : k17 v w) : k17 u w := ⟨h1.1.trans h2.1, h1.2.trans h2.2⟩
theorem k17.of {S : Nat → Nat → Prop} {u v : ax_S} (h : fo S u v) : k17 u v := ⟨by rw [h.2], by rw [h.2]⟩
theorem ul_at (σ : ax_S) (x : Int64) : (ax_ul σ 0 19 x).2 0 19 = x := by simp [ax_ul]
theorem ul_at8 (σ : ax_S) (x : Int64) : (ax_ul σ 0 38 x).2 0 38 = x := by simp [ax_ul]
theorem ul_17 (σ : ax_S) (x : Int64) : k17 (ax_ul σ 0 19 x) σ := ⟨by simp [ax_ul], by simp [ax_ul]⟩
theorem ul_fk {S : Nat → Nat → Prop} (σ : ax_S) (i : Nat) (x : Int64) : fk S (ax_ul σ 0 i x) σ := fun _ _ _ => rfl
/-- the class's strikeByChance -/
theorem ct_X11_strikeByChance {d : Nat} (hd : 12 ≤ d) {σ : ax_S} {n : Nat} {E D : Nat → Nat} {dry a T lw ho : Nat} {H : Nat → Nat → Nat} {L : Nat → List (List (Nat × Nat) × List (Nat × Nat))} {x : Int64} (hx : σ.2 0 19 = x) (hb : bk_ok n E D dry) (hn0 : 0 < n) (hl : lg_ok D) (ha : a ≤ 40) (hT : T < 1000000) (hC : bk_C σ n E D dry) (hsm : bk_sm σ) (hR : hi_R σ n a T D H) (hlw : lwok lw ho L) (hlC : lwC σ lw ho L) :
    ax_Ct shC d mX11_strikeByChance [ax_r 0] (fun r u => r = none ∧ fk st_SB u σ ∧ k17 u σ ∧ u.2 0 19 = dX (dX x) ∧ CB u n E (stD n D (kpf E D dry ho L) (pkH E (n - 1) 0 (dU (dX x) % hts E n)) (dU (dX (dX x)) % 99 + 1)) dry a (T + 1) H) σ := by
  obtain ⟨d, rfl⟩ : ∃ e, d = e + 1 := ⟨d - 1, by omega⟩
  have hn := hb.2.1
  have hht := hts_b hb
  have hml := Nat.mod_lt (dU (dX x)) (show 0 < hts E n by omega)
  refine ax_Ct.of (lv := [some (ax_r 0), none, none]) (by decide +kernel) (fun ad => Nat.le_of_ble_eq_true rfl) (fun ad => rfl) ?_
  refine s_X11_strikeByChance_0 (by omega) σ ?_
  refine (ct_X0_heights (by omega) hb hC).mono ?_
  rintro r u ⟨rfl, rfl⟩
  refine ⟨_, rfl, s_X11_strikeByChance_8 (by omega) u _ (fun _ => nz64 _) ?_⟩
  rw [dr_p _ (hts E n), hx]
  have e19 : (ax_ul u 0 19 (dX x)).2 0 19 = dX x := ul_at u _
  -- the last step
  have last : ∀ h, h < n → ∀ y, y = h → ax_Ct shC d mX11_strikeNow [ax_r 0, ax_i (nI h), ax_i ((if ((1 : Int32) ≤ (99 : Int32)) then (Int64.toInt32 ((((Int64.toUInt64 ((((ax_ul u 0 19 (dX x)).2 0 19) * (6364136223846793005 : Int64)) + (1442695040888963407 : Int64))) >>> ((Int64.toUInt64 (Int32.toInt64 (33 : Int32))) &&& Int64.toUInt64 63)).toInt64) - (((Int64.toUInt64 ((((ax_ul u 0 19 (dX x)).2 0 19) * (6364136223846793005 : Int64)) + (1442695040888963407 : Int64))) >>> ((Int64.toUInt64 (Int32.toInt64 (33 : Int32))) &&& Int64.toUInt64 63)).toInt64) / (Int32.toInt64 (99 : Int32)) * (Int32.toInt64 (99 : Int32)))) else (0 : Int32)) + (1 : Int32))] (fun r w => ∃ z : Int32, r = some (ax_i z) ∧ ax_W shC (d + 1) mX11_strikeByChance (fun r t => r = none ∧ fk st_SB t u ∧ k17 t u ∧ t.2 0 19 = dX (dX x) ∧ CB t n E (stD n D (kpf E D dry ho L) y (dU (dX (dX x)) % 99 + 1)) dry a (T + 1) H) 71 [none, none, none] (ax_i z :: []) w) (ax_ul (ax_ul u 0 19 (dX x)) 0 19 ((((ax_ul u 0 19 (dX x)).2 0 19) * (6364136223846793005 : Int64)) + (1442695040888963407 : Int64))) := by
    rintro h hh y rfl
    rw [e19]
    have h99 := Nat.mod_lt (dU (dX (dX x))) (show 0 < 99 by omega)
    have ed : (if ((1 : Int32) ≤ (99 : Int32)) then (Int64.toInt32 ((((Int64.toUInt64 ((dX x) * (6364136223846793005 : Int64) + (1442695040888963407 : Int64))) >>> ((Int64.toUInt64 (Int32.toInt64 (33 : Int32))) &&& Int64.toUInt64 63)).toInt64) - (((Int64.toUInt64 ((dX x) * (6364136223846793005 : Int64) + (1442695040888963407 : Int64))) >>> ((Int64.toUInt64 (Int32.toInt64 (33 : Int32))) &&& Int64.toUInt64 63)).toInt64) / (Int32.toInt64 (99 : Int32)) * (Int32.toInt64 (99 : Int32)))) else (0 : Int32)) + (1 : Int32) = nI (dU (dX (dX x)) % 99 + 1) := by
      rw [dr_if99, dr_99, nI_1]; rfl
    rw [ed]
    refine (ct_X11_strikeNow (σ := ax_ul (ax_ul u 0 19 (dX x)) 0 19 (dX (dX x))) (by omega) hb hl ha hT hC hsm hR (skK_of hlw (st_H hb hC) hlC hn) (kpf_le E D dry ho L) hh (show 1 ≤ dU (dX (dX x)) % 99 + 1 by omega) (show dU (dX (dX x)) % 99 + 1 ≤ 999 by omega)).mono ?_
    rintro r w ⟨rfl, w1, w2⟩
    refine ⟨_, rfl, s_X11_strikeByChance_71 (by omega) w _ ⟨rfl, fun c i hc => w1.1 c i hc, ?_, ?_, w2⟩⟩
    · exact (k17.of w1).trans ((ul_17 _ _).trans (ul_17 _ _))
    · rw [w1.2]; exact ul_at _ _
  have loop : ∀ f h l, h + f + 1 = n → l < 1000 → ax_W shC (d + 1) mX11_strikeByChance (fun r t => r = none ∧ fk st_SB t u ∧ k17 t u ∧ t.2 0 19 = dX (dX x) ∧ CB t n E (stD n D (kpf E D dry ho L) (pkH E f h l) (dU (dX (dX x)) % 99 + 1)) dry a (T + 1) H) 14 [some (ax_r 0), some (ax_i (nI l)), some (ax_i (nI h))] [] (ax_ul u 0 19 (dX x)) := by
    intro f
    induction f with
    | zero =>
      intro h l hf hl2
      have e9 : (ax_ul u 0 19 (dX x)).1 5 9 = nI n := hC.1
      have g : (ax_ul u 0 19 (dX x)).1 5 9 - 1 ≤ nI h := by rw [e9, show nI n - 1 = nI (n - 1) from n_sub n 1]; exact (n_le _ _).mpr (by omega)
      refine s_X11_strikeByChance_14 (by omega) _ _ _ (fun _ _ => nz64 99) (fun _ => ?_) (fun c => absurd g c) (fun c => absurd g c) (fun c => absurd g c) (fun c => absurd g c) (fun c => absurd g c)
      exact last h (by omega) _ rfl
    | succ f ih =>
      intro h l hf hl2
      have e9 : (ax_ul u 0 19 (dX x)).1 5 9 = nI n := hC.1
      have g : ¬ (ax_ul u 0 19 (dX x)).1 5 9 - 1 ≤ nI h := by rw [e9, show nI n - 1 = nI (n - 1) from n_sub n 1]; exact fun z => absurd ((n_le _ _).mp z) (by omega)
      have e24 : (ax_ul u 0 19 (dX x)).1 24 (Int32.toNatClampNeg (nI h)) = nI (E (4 * h + 1)) := by rw [n_tn h]; exact (hC.2.2.2.2.2.1 h (by omega)).2.1
      have hE := (hb.2.2.2.2.2.2.2.1 h (by omega)).2.2.1
      refine s_X11_strikeByChance_14 (by omega) _ _ _ (fun c => absurd c g) (fun c => absurd c g) (fun _ => n_in _ _) (fun _ _ _ => nz64 99) (fun _ c => ?_) (fun _ _ => n_in _ _) (fun _ c => ?_)
      · rw [e24] at c
        have c2 := (n_lt _ _).mp c
        refine last h (by omega) _ ?_
        rw [pkH, if_pos c2]
      · rw [e24] at c
        have c2 : ¬ l < E (4 * h + 1) := fun z => c ((n_lt _ _).mpr z)
        rw [e24, n_sub l (E (4 * h + 1)), nI_1, pkH, if_neg c2]
        exact ih (h + 1) (l - E (4 * h + 1)) (by omega) (by omega)
  exact loop (n - 1) 0 _ (by omega) (by omega)
/-- the reference's drawStroke -/
theorem ct_X12_drawStroke {d : Nat} (hd : 13 ≤ d) {τ : ax_S} {n : Nat} {E D : Nat → Nat} {dry lw ho : Nat} {L : Nat → List (List (Nat × Nat) × List (Nat × Nat))} {x : Int64} (hx : τ.2 0 38 = x) (hb : bk_ok n E D dry) (hn0 : 0 < n) (hl : lg_ok D) (hM : bk_M τ n E D dry) (hlw : lwok lw ho L) (hlM : lwM τ lw ho L) :
    ax_Ct shM d mX12_drawStroke [ax_r 0] (fun r u => r = none ∧ fk st_SM u τ ∧ u.2 0 38 = dX (dX x) ∧ mD u (stD n D (kpf E D dry ho L) (pkH E (n - 1) 0 (dU (dX x) % hts E n)) (dU (dX (dX x)) % 99 + 1))) τ := by
  obtain ⟨d, rfl⟩ : ∃ e, d = e + 1 := ⟨d - 1, by omega⟩
  have hn := hb.2.1
  have hht := hts_b hb
  obtain ⟨l0, hl0⟩ : ∃ l0, l0 = dU (dX x) % hts E n := ⟨_, rfl⟩
  have hml : l0 < hts E n := by rw [hl0]; exact Nat.mod_lt (dU (dX x)) (show 0 < hts E n by omega)
  rw [← hl0]
  refine ax_Ct.of (lv := [some (ax_r 0), none, none]) (by decide +kernel) (fun ad => Nat.le_of_ble_eq_true rfl) (fun ad => rfl) ?_
  refine s_X12_drawStroke_0 (by omega) τ ?_
  refine (ct_X12_heights (by omega) hb hM).mono ?_
  rintro r u ⟨rfl, rfl⟩
  refine ⟨_, rfl, s_X12_drawStroke_5 (by omega) u _ (nz64 _) ?_⟩
  rw [dr_eq _ (hts E n), hx, dX_f, ← hl0]
  have e19 : (ax_ul u 0 38 (dX x)).2 0 38 = dX x := ul_at8 u _
  have last : ∀ h, h < n → ∀ y, y = h → ax_Ct shM d mX12_strikeNow [ax_r 0, ax_i (nI h), ax_i ((Int64.toInt32 ((((Int64.toUInt64 ((((ax_ul u 0 38 (dX x)).2 0 38) * (6364136223846793005 : Int64)) + (1442695040888963407 : Int64))) >>> ((Int64.toUInt64 (Int32.toInt64 (33 : Int32))) &&& Int64.toUInt64 63)).toInt64) - (((Int64.toUInt64 ((((ax_ul u 0 38 (dX x)).2 0 38) * (6364136223846793005 : Int64)) + (1442695040888963407 : Int64))) >>> ((Int64.toUInt64 (Int32.toInt64 (33 : Int32))) &&& Int64.toUInt64 63)).toInt64) / (Int32.toInt64 (99 : Int32)) * (Int32.toInt64 (99 : Int32)))) + (1 : Int32))] (fun r w => ∃ z : Int32, r = some (ax_i z) ∧ ax_W shM (d + 1) mX12_drawStroke (fun r t => r = none ∧ fk st_SM t u ∧ t.2 0 38 = dX (dX x) ∧ mD t (stD n D (kpf E D dry ho L) y (dU (dX (dX x)) % 99 + 1))) 49 [none, none, none] (ax_i z :: []) w) (ax_ul (ax_ul u 0 38 (dX x)) 0 38 ((((ax_ul u 0 38 (dX x)).2 0 38) * (6364136223846793005 : Int64)) + (1442695040888963407 : Int64))) := by
    rintro h hh y rfl
    rw [e19]
    have h99 := Nat.mod_lt (dU (dX (dX x))) (show 0 < 99 by omega)
    have ed : (Int64.toInt32 ((((Int64.toUInt64 ((dX x) * (6364136223846793005 : Int64) + (1442695040888963407 : Int64))) >>> ((Int64.toUInt64 (Int32.toInt64 (33 : Int32))) &&& Int64.toUInt64 63)).toInt64) - (((Int64.toUInt64 ((dX x) * (6364136223846793005 : Int64) + (1442695040888963407 : Int64))) >>> ((Int64.toUInt64 (Int32.toInt64 (33 : Int32))) &&& Int64.toUInt64 63)).toInt64) / (Int32.toInt64 (99 : Int32)) * (Int32.toInt64 (99 : Int32)))) + (1 : Int32) = nI (dU (dX (dX x)) % 99 + 1) := by
      rw [dr_99, nI_1]; rfl
    rw [ed]
    refine (ct_X12_strikeNow (τ := ax_ul (ax_ul u 0 38 (dX x)) 0 38 (dX (dX x))) (by omega) hb hl hM (mkK_of hlw (st_Hm hb hM) (hlM.to (S := fun _ _ => False) (fun _ _ _ => rfl) (fun _ _ h => h.elim)) hn) (kpf_le E D dry ho L) hh (show 1 ≤ dU (dX (dX x)) % 99 + 1 by omega) (show dU (dX (dX x)) % 99 + 1 ≤ 999 by omega)).mono ?_
    rintro r w ⟨rfl, w1, w2⟩
    refine ⟨_, rfl, s_X12_drawStroke_49 (by omega) w _ ⟨rfl, fun c i hc => w1.1 c i hc, ?_, w2⟩⟩
    rw [w1.2]; exact ul_at8 _ _
  have loop : ∀ f h l, h + f + 1 = n → l + fb_sm (fun h => E (4 * h + 1)) h < hts E n → ax_W shM (d + 1) mX12_drawStroke (fun r t => r = none ∧ fk st_SM t u ∧ t.2 0 38 = dX (dX x) ∧ mD t (stD n D (kpf E D dry ho L) (pkH E f h l) (dU (dX (dX x)) % 99 + 1))) 11 [some (ax_r 0), some (ax_i (nI l)), some (ax_i (nI h))] [] (ax_ul u 0 38 (dX x)) := by
    intro f
    induction f with
    | zero =>
      intro h l hf hl2
      have i1 : (4 : Int32) * nI h + 1 = nI (4 * h + 1) := n_h h 1
      have e24 : (ax_ul u 0 38 (dX x)).1 14 (Int32.toNatClampNeg ((4 : Int32) * nI h + 1)) = nI (E (4 * h + 1)) := by rw [i1, n_tn _]; exact hM.2.2.2 h 1 (by omega) (by omega)
      have hE := (hb.2.2.2.2.2.2.2.1 h (by omega)).2.2.1
      have hs : hts E n = fb_sm (fun h => E (4 * h + 1)) h + E (4 * h + 1) := by
        unfold hts; rw [show n = h + 1 by omega, fb_sm_succ]
      have g : nI l < (ax_ul u 0 38 (dX x)).1 14 (Int32.toNatClampNeg ((4 : Int32) * nI h + 1)) := by rw [e24]; exact (n_lt _ _).mpr (by omega)
      refine s_X12_drawStroke_11 (by omega) _ _ _ (by rw [i1]; exact n_in _ _) (fun _ => nz64 99) (fun _ => ?_) (fun c => absurd g c) (fun c => absurd g c)
      exact last h (by omega) _ rfl
    | succ f ih =>
      intro h l hf hl2
      have i1 : (4 : Int32) * nI h + 1 = nI (4 * h + 1) := n_h h 1
      have e24 : (ax_ul u 0 38 (dX x)).1 14 (Int32.toNatClampNeg ((4 : Int32) * nI h + 1)) = nI (E (4 * h + 1)) := by rw [i1, n_tn _]; exact hM.2.2.2 h 1 (by omega) (by omega)
      have hE := (hb.2.2.2.2.2.2.2.1 h (by omega)).2.2.1
      refine s_X12_drawStroke_11 (by omega) _ _ _ (by rw [i1]; exact n_in _ _) (fun _ => nz64 99) (fun c => ?_) (fun _ => by rw [i1]; exact n_in _ _) (fun c => ?_)
      · rw [e24] at c
        have c2 := (n_lt _ _).mp c
        refine last h (by omega) _ ?_
        rw [pkH, if_pos c2]
      · rw [e24] at c
        have c2 : ¬ l < E (4 * h + 1) := fun z => c ((n_lt _ _).mpr z)
        rw [e24, n_sub l (E (4 * h + 1)), nI_1, pkH, if_neg c2]
        refine ih (h + 1) (l - E (4 * h + 1)) (by omega) ?_
        rw [fb_sm_succ]; omega
  exact loop (n - 1) 0 l0 (by omega) (by show l0 + 0 < hts E n; omega)
