/-! ===== DECADES: the reference, both ===== -/
theorem dec_psM {d : Nat} (hd : 2 ≤ d) {u v : ax_S} {n : Nat} {E D : Nat → Nat} {dry : Nat} {Q : Option ax_V → ax_S → Prop} {x1 x4 : Int32} (hb : bk_ok n E D dry) (hm : mD v D) (fv : fk st_SM v u)
    (K : ∀ w, fk st_SM w u → w.2 0 38 = v.2 0 38 → mD w (psD D) → ax_W shM (d + 1) mX12_decades Q 25 [some (ax_r 0), some (ax_i x1), none, none, some (ax_i (x4 + 1))] [] w) :
    ax_Ct shM d mX12_passSummer [ax_r 0] (fun r u => r = none ∧ ax_W shM (d + 1) mX12_decades Q 96 [some (ax_r 0), some (ax_i x1), none, none, some (ax_i x4)] [] u) v := by
  refine (ct_X12_passSummer hd hb hm).mono ?_
  rintro r w ⟨rfl, hw, w1⟩
  exact ⟨rfl, s_X12_decades_96 (by omega) w _ _ (K w (fk.trans (fk.mono hw.1 (fun c i h => Or.inr h)) fv) (by rw [hw.2]) w1)⟩
theorem w_X12_dec52 {d : Nat} (hd : 2 ≤ d) {u v : ax_S} {n : Nat} {E D : Nat → Nat} {dry ki : Nat} {Q : Option ax_V → ax_S → Prop} {x1 x4 : Int32} (hki : ki ≤ 9) (h15 : v.1 0 29 = nI ki) (hb : bk_ok n E D dry) (hm : mD v D) (fv : fk st_SM v u)
    (K : ∀ w, fk st_SM w u → w.2 0 38 = (dcQ ki D (v.2 0 38)).2 → mD w (psD (dcQ ki D (v.2 0 38)).1) → ax_W shM (d + 1) mX12_decades Q 25 [some (ax_r 0), some (ax_i x1), none, none, some (ax_i (x4 + 1))] [] w) :
    ax_W shM (d + 1) mX12_decades Q 52 [some (ax_r 0), some (ax_i x1), none, none, some (ax_i x4)] [] v := by
  have h84 := hb.2.2.2.1
  have e84 : v.1 15 84 = nI (D 84) := hm 84 (by omega)
  refine s_X12_decades_52 (by omega) v _ _ (nz64 10) (fun c => ?_) (fun c1 c2 => ?_) (fun _ c2 => ?_) (fun _ c2 => ?_) (fun c1 c2 => ?_)
  · rw [dr_10, h15] at c
    have c' : ki ≤ dU (dX (v.2 0 38)) % 10 := (n_le _ _).mp c
    refine dec_psM hd (v := ax_ul v 0 38 (dX (v.2 0 38))) hb hm fv (fun w a1 a2 a3 => K w a1 ?_ ?_)
    · rw [a2, ul_at8]; unfold dcQ; rw [if_pos c']
    · unfold dcQ; rw [if_pos c']; exact a3
  · rw [dr_10, h15] at c1
    have c' : ¬ ki ≤ dU (dX (v.2 0 38)) % 10 := fun z => c1 ((n_le _ _).mpr z)
    rw [e84] at c2
    have c3 : D 84 = 0 := by have := (n_le (D 84) 0).mp c2; omega
    refine dec_psM hd (v := ax_ul v 0 38 (dX (v.2 0 38))) hb hm fv (fun w a1 a2 a3 => K w a1 ?_ ?_)
    · rw [a2, ul_at8]; unfold dcQ; rw [if_neg c', if_pos c3]
    · unfold dcQ; rw [if_neg c', if_pos c3]; exact a3
  · rw [e84] at c2 ⊢
    exact nz64 _ (by have : ¬ D 84 ≤ 0 := fun z => c2 ((n_le (D 84) 0).mpr z)
                     omega)
  · rw [e84] at c2 ⊢
    have c3 : ¬ D 84 = 0 := fun z => c2 ((n_le (D 84) 0).mpr (by omega))
    rw [dr_eq _ (D 84)]
    have hk := Nat.mod_lt (dU (dX (dX (v.2 0 38)))) (show 0 < D 84 by omega)
    have i3 : (16 : Int32) + 4 * nI (dU (dX (dX (v.2 0 38))) % D 84) + 3 = nI (16 + 4 * (dU (dX (dX (v.2 0 38))) % D 84) + 3) := n_w _ 3
    show vp_in ((16 : Int32) + 4 * nI (dU (dX (dX (v.2 0 38))) % D 84) + 3) 268
    rw [i3]; exact n_in _ _
  · rw [dr_10, h15] at c1
    have c' : ¬ ki ≤ dU (dX (v.2 0 38)) % 10 := fun z => c1 ((n_le _ _).mpr z)
    rw [e84] at c2
    have c3 : ¬ D 84 = 0 := fun z => c2 ((n_le (D 84) 0).mpr (by omega))
    rw [e84, dr_eq _ (D 84)]
    have hk := Nat.mod_lt (dU (dX (dX (v.2 0 38)))) (show 0 < D 84 by omega)
    have i3 : (16 : Int32) + 4 * nI (dU (dX (dX (v.2 0 38))) % D 84) + 3 = nI (16 + 4 * (dU (dX (dX (v.2 0 38))) % D 84) + 3) := n_w _ 3
    have i4 : Int32.toNatClampNeg ((16 : Int32) + 4 * nI (dU (dX (dX (v.2 0 38))) % D 84) + 3) = 16 + 4 * (dU (dX (dX (v.2 0 38))) % D 84) + 3 := by rw [i3, n_tn _]
    refine dec_psM hd (v := ax_ui (ax_ul (ax_ul v 0 38 (dX (v.2 0 38))) 0 38 (dX (dX (v.2 0 38)))) 15 (Int32.toNatClampNeg ((16 : Int32) + 4 * nI (dU (dX (dX (v.2 0 38))) % D 84) + 3)) 1) (cu1_ok hb hk) ?_ (fun c i hc => ?_) (fun w a1 a2 a3 => K w a1 ?_ ?_)
    · rw [i4]; exact mD.set (τ := ax_ul (ax_ul v 0 38 (dX (v.2 0 38))) 0 38 (dX (dX (v.2 0 38)))) hm _ 1
    · exact (if_neg (fun z => hc (Or.inr z.1))).trans (fv c i hc)
    · unfold dcQ; rw [if_neg c', if_neg c3, a2]
      exact ul_at8 (ax_ul v 0 38 (dX (v.2 0 38))) (dX (dX (v.2 0 38)))
    · unfold dcQ; rw [if_neg c', if_neg c3]; exact a3
theorem w_X12_dec35 {d : Nat} (hd : 13 ≤ d) {u : ax_S} {n : Nat} {E D : Nat → Nat} {dry st ki lw ho : Nat} {L : Nat → List (List (Nat × Nat) × List (Nat × Nat))} {Q : Option ax_V → ax_S → Prop} {x1 x4 : Int32} (hst : st ≤ 9) (hki : ki ≤ 9) (h14 : u.1 0 28 = nI st) (h15 : u.1 0 29 = nI ki) (hb : bk_ok n E D dry) (hn0 : 0 < n) (hl : lg_ok D) (hM : bk_M u n E D dry) (hlw : lwok lw ho L) (hlM : lwM u lw ho L)
    (K : ∀ w, fk st_SM w u → w.2 0 38 = (dcQ ki (dcP n E dry ho L st D (u.2 0 38)).1 (dcP n E dry ho L st D (u.2 0 38)).2.2).2 → mD w (psD (dcQ ki (dcP n E dry ho L st D (u.2 0 38)).1 (dcP n E dry ho L st D (u.2 0 38)).2.2).1) → ax_W shM (d + 1) mX12_decades Q 25 [some (ax_r 0), some (ax_i x1), none, none, some (ax_i (x4 + 1))] [] w) :
    ax_W shM (d + 1) mX12_decades Q 35 [some (ax_r 0), some (ax_i x1), none, none, some (ax_i x4)] [] u := by
  have h84 := hb.2.2.2.1
  have hm := hM.2.2.1
  have e84 : u.1 15 84 = nI (D 84) := hm 84 (by omega)
  have eP : st ≤ dU (dX (u.2 0 38)) % 10 → dcP n E dry ho L st D (u.2 0 38) = (D, 0, dX (u.2 0 38)) := fun z => by unfold dcP; rw [if_pos z]
  refine s_X12_decades_35 (by omega) u _ _ (nz64 10) (fun _ => nz64 10) (fun c c1 => ?_) (fun c c1 c2 => ?_) (fun _ _ c2 => ?_) (fun _ _ c2 => ?_) (fun c c1 c2 => ?_) (fun c => ?_)
  · rw [dr_10, h14] at c
    have c0 : st ≤ dU (dX (u.2 0 38)) % 10 := (n_le _ _).mp c
    rw [dr_10, h15] at c1
    have c' : ki ≤ dU (dX (dX (u.2 0 38))) % 10 := (n_le _ _).mp c1
    rw [eP c0] at K
    refine dec_psM (by omega) (v := ax_ul (ax_ul u 0 38 (dX (u.2 0 38))) 0 38 (dX (dX (u.2 0 38)))) hb hm (fun _ _ _ => rfl) (fun w a1 a2 a3 => K w a1 ?_ ?_)
    · rw [a2, ul_at8]; unfold dcQ; rw [if_pos c']
    · unfold dcQ; rw [if_pos c']; exact a3
  · rw [dr_10, h14] at c
    have c0 : st ≤ dU (dX (u.2 0 38)) % 10 := (n_le _ _).mp c
    rw [dr_10, h15] at c1
    have c' : ¬ ki ≤ dU (dX (dX (u.2 0 38))) % 10 := fun z => c1 ((n_le _ _).mpr z)
    rw [e84] at c2
    have c3 : D 84 = 0 := by have := (n_le (D 84) 0).mp c2; omega
    rw [eP c0] at K
    refine dec_psM (by omega) (v := ax_ul (ax_ul u 0 38 (dX (u.2 0 38))) 0 38 (dX (dX (u.2 0 38)))) hb hm (fun _ _ _ => rfl) (fun w a1 a2 a3 => K w a1 ?_ ?_)
    · rw [a2, ul_at8]; unfold dcQ; rw [if_neg c', if_pos c3]
    · unfold dcQ; rw [if_neg c', if_pos c3]; exact a3
  · rw [e84] at c2 ⊢
    exact nz64 _ (by have : ¬ D 84 ≤ 0 := fun z => c2 ((n_le (D 84) 0).mpr z)
                     omega)
  · rw [e84] at c2 ⊢
    have c3 : ¬ D 84 = 0 := fun z => c2 ((n_le (D 84) 0).mpr (by omega))
    rw [dr_eq _ (D 84)]
    have hk := Nat.mod_lt (dU (dX (dX (dX (u.2 0 38))))) (show 0 < D 84 by omega)
    have i3 : (16 : Int32) + 4 * nI (dU (dX (dX (dX (u.2 0 38)))) % D 84) + 3 = nI (16 + 4 * (dU (dX (dX (dX (u.2 0 38)))) % D 84) + 3) := n_w _ 3
    show vp_in ((16 : Int32) + 4 * nI (dU (dX (dX (dX (u.2 0 38)))) % D 84) + 3) 268
    rw [i3]; exact n_in _ _
  · rw [dr_10, h14] at c
    have c0 : st ≤ dU (dX (u.2 0 38)) % 10 := (n_le _ _).mp c
    rw [dr_10, h15] at c1
    have c' : ¬ ki ≤ dU (dX (dX (u.2 0 38))) % 10 := fun z => c1 ((n_le _ _).mpr z)
    rw [e84] at c2
    have c3 : ¬ D 84 = 0 := fun z => c2 ((n_le (D 84) 0).mpr (by omega))
    rw [e84, dr_eq _ (D 84)]
    rw [eP c0] at K
    have hk := Nat.mod_lt (dU (dX (dX (dX (u.2 0 38))))) (show 0 < D 84 by omega)
    have i3 : (16 : Int32) + 4 * nI (dU (dX (dX (dX (u.2 0 38)))) % D 84) + 3 = nI (16 + 4 * (dU (dX (dX (dX (u.2 0 38)))) % D 84) + 3) := n_w _ 3
    have i4 : Int32.toNatClampNeg ((16 : Int32) + 4 * nI (dU (dX (dX (dX (u.2 0 38)))) % D 84) + 3) = 16 + 4 * (dU (dX (dX (dX (u.2 0 38)))) % D 84) + 3 := by rw [i3, n_tn _]
    refine dec_psM (by omega) (v := ax_ui (ax_ul (ax_ul (ax_ul u 0 38 (dX (u.2 0 38))) 0 38 (dX (dX (u.2 0 38)))) 0 38 (dX (dX (dX (u.2 0 38))))) 15 (Int32.toNatClampNeg ((16 : Int32) + 4 * nI (dU (dX (dX (dX (u.2 0 38)))) % D 84) + 3)) 1) (cu1_ok hb hk) ?_ (fun c i hc => ?_) (fun w a1 a2 a3 => K w a1 ?_ ?_)
    · rw [i4]; exact mD.set (τ := ax_ul (ax_ul (ax_ul u 0 38 (dX (u.2 0 38))) 0 38 (dX (dX (u.2 0 38)))) 0 38 (dX (dX (dX (u.2 0 38))))) hm _ 1
    · exact if_neg (fun z => hc (Or.inr z.1))
    · unfold dcQ; rw [if_neg c', if_neg c3, a2]
      exact ul_at8 (ax_ul (ax_ul u 0 38 (dX (u.2 0 38))) 0 38 (dX (dX (u.2 0 38)))) (dX (dX (dX (u.2 0 38))))
    · unfold dcQ; rw [if_neg c', if_neg c3]; exact a3
  · rw [dr_10, h14] at c
    have c0 : ¬ st ≤ dU (dX (u.2 0 38)) % 10 := fun z => c ((n_le _ _).mpr z)
    have eN : dcP n E dry ho L st D (u.2 0 38) = (stD n D (kpf E D dry ho L) (pkH E (n - 1) 0 (dU (dX (dX (u.2 0 38))) % hts E n)) (dU (dX (dX (dX (u.2 0 38)))) % 99 + 1), 1, dX (dX (dX (u.2 0 38)))) := by unfold dcP; rw [if_neg c0]
    rw [eN] at K
    refine (ct_X12_drawStroke (τ := ax_ul u 0 38 (dX (u.2 0 38))) (by omega) (ul_at8 _ _) hb hn0 hl hM hlw (hlM.to (S := fun _ _ => False) (fun _ _ _ => rfl) (fun _ _ h => h.elim))).mono ?_
    rintro r v ⟨rfl, v1, v2, v3⟩
    refine ⟨rfl, w_X12_dec52 (by omega) (u := u) hki ?_ (stD_ok hb) v3 v1 ?_⟩
    · rw [v1 0 29 (by unfold st_SM scm; omega)]; exact h15
    · rw [v2]; exact K
theorem good_decades {j : Nat} {σ τ : ax_S} (hj : j ≤ 1000) (h : RR j σ τ) (x : Int32) (y : Int64) : good j mX11_decades mX12_decades [ax_i x, ax_l y] σ τ := by
  obtain ⟨n, E, D, dry, lw, ho, L, a, T, H, st, ki, hb, hlg, hlw, hh, hT, hCB, hMB, hlC, hlM, hst, hki, ⟨e14, e15⟩, ⟨e28, e29⟩, hnext⟩ := h.belt2
  have hn := hb.2.1
  have h86 := hb.2.2.2.2.2.1
  have zC := hb_C hCB.1.1 hn
  have zM := hb_M hMB.1.1 hn
  have s14 : σ.1 5 14 = nI (D 86) := hCB.1.2.2.2.2.1
  have t86 : τ.1 15 86 = nI (D 86) := hMB.1.2.2.1 86 (by omega)
  by_cases g : ¬ n = 0 ∧ ∃ m, 1 ≤ m ∧ m ≤ 60 ∧ D 86 + m ≤ 999 ∧ x = nI m
  · obtain ⟨hn0, g⟩ := g
    have g1 : ¬ σ.1 5 9 ≤ 0 := fun q => hn0 (zC.mp q)
    have g2 : ¬ τ.1 0 23 = 0 := fun q => hn0 (zM.mp q)
    have g3 := (may_C (D 86) x h86).mpr g
    have g4 := (may_M (D 86) x h86).mpr g
    rw [← s14] at g3
    rw [← t86] at g4
    obtain ⟨m, hm1, hm, hm9, rfl⟩ := g
    have hs := dcS_ok (ho := ho) (L := L) (st := st) (ki := ki) (T := T) (x := y) (show 0 < n by omega) hb hlg hh
    let S := dcS n E dry ho L st ki (D, a, T, H, y)
    refine ⟨nI (D 86 + m), (fun u => fk SB u σ ∧ k17 u σ ∧ CB u n E (S m).1 dry (S m).2.1 (S m).2.2.1 (S m).2.2.2.1), (fun w => fk SM w τ ∧ MB w n E (S m).1 dry (S m).2.1 (S m).2.2.2.1), ?_, ?_, ?_⟩
    · refine ax_Ct.of (lv := [some (ax_r 0), some (ax_i (nI m)), some (ax_l y), none, none]) (by decide +kernel) (fun ad => Nat.le_of_ble_eq_true rfl) (fun ad => rfl) ?_
      refine s_X11_decades_0 (d := 59) (by omega) σ _ _ (fun c => absurd g1 c) (fun _ _ => ?_) (fun _ c => absurd g3 c)
      have loop := lp_up (m := m) (P := fun k => ∀ u, fk SB u σ → k17 u σ → u.2 0 19 = (S k).2.2.2.2 → CB u n E (S k).1 dry (S k).2.1 (S k).2.2.1 (S k).2.2.2.1 → ax_W shC (59 + 1) mX11_decades (fun r u => r = some (ax_i (nI (D 86 + m))) ∧ fk SB u σ ∧ k17 u σ ∧ CB u n E (S m).1 dry (S m).2.1 (S m).2.2.1 (S m).2.2.2.1) 25 [some (ax_r 0), some (ax_i (nI m)), none, none, some (ax_i (nI k))] [] u) ?_ ?_
      · exact loop 0 (by omega) (ax_ul σ 0 19 y) (fun _ _ _ => rfl) (ul_17 _ _) (ul_at _ _) hCB
      · intro u hf hk _ hu
        refine s_X11_decades_25 (by omega) u _ _ (fun _ => ⟨?_, hf, hk, hu⟩) (fun c => absurd ((n_le m m).mpr (Nat.le_refl _)) c)
        rw [hu.1.2.2.2.2.1, (hs m hm9).2.2.2.1]
      · intro k hk ih u hf hkk hx hu
        obtain ⟨s1, s2, s3, s4, s5⟩ := hs k (by omega)
        refine s_X11_decades_25 (by omega) u _ _ (fun c => absurd ((n_le m k).mp c) (by omega)) (fun _ => ?_)
        refine (ct_X11_remember (by omega) s1 hu.1 hu.2.1 s3.1 hu.2.2).mono ?_
        rintro r v ⟨rfl, hv, hR⟩
        obtain ⟨v1, v2⟩ := hu.kept hv
        have fv : fk SB v σ := fk.trans (fo_SB hv).1 hf
        have ev : v.2 0 19 = (S k).2.2.2.2 := by rw [hv.2]; exact hx
        refine ⟨rfl, w_X11_dec35 (by omega) hst hki ?_ ?_ s1 (by omega) s2 (by omega) ?_ v1 v2 hR hlw (hlC.to fv (fun c i hs => by unfold SB rd_S scC scr at hs; omega)) ?_⟩
        · rw [fv 0 14 (by unfold SB rd_S scC scr; omega)]; exact e14
        · rw [fv 0 15 (by unfold SB rd_S scC scr; omega)]; exact e15
        · show (S k).2.2.1 < 1000000
          have : (S k).2.2.1 ≤ T + k := s5
          omega
        · rw [ev, nI_1]
          intro w a1 a2 a3 a4
          exact ih w (a1.trans fv) (a2.trans ((k17.of hv).trans hkk)) a3 a4
    · refine ax_Ct.of (lv := [some (ax_r 0), some (ax_i (nI m)), some (ax_l y), none, none]) (by decide +kernel) (fun ad => Nat.le_of_ble_eq_true rfl) (fun ad => rfl) ?_
      refine s_X12_decades_0 (d := 59) (by omega) τ _ _ (fun c => absurd c g2) (fun _ _ => n_in 86 268) (fun _ _ => ?_) (fun _ c => absurd g4 c)
      have loop := lp_up (m := m) (P := fun k => ∀ v, fk SM v τ → v.2 0 38 = (S k).2.2.2.2 → MB v n E (S k).1 dry (S k).2.1 (S k).2.2.2.1 → ax_W shM (59 + 1) mX12_decades (fun r w => r = some (ax_i (nI (D 86 + m))) ∧ fk SM w τ ∧ MB w n E (S m).1 dry (S m).2.1 (S m).2.2.2.1) 25 [some (ax_r 0), some (ax_i (nI m)), none, none, some (ax_i (nI k))] [] v) ?_ ?_
      · exact loop 0 (by omega) (ax_ul τ 0 38 y) (fun _ _ _ => rfl) (ul_at8 _ _) hMB
      · intro v hf _ hv
        refine s_X12_decades_25 (by omega) v _ _ (fun _ => ⟨?_, hf, hv⟩) (fun c => absurd ((n_le m m).mpr (Nat.le_refl _)) c)
        rw [hv.1.2.2.1 86 (by omega), (hs m hm9).2.2.2.1]
      · intro k hk ih v hf hx hv
        obtain ⟨s1, s2, s3, s4, s5⟩ := hs k (by omega)
        refine s_X12_decades_25 (by omega) v _ _ (fun c => absurd ((n_le m k).mp c) (by omega)) (fun _ => ?_)
        refine (ct_X12_keep (by omega) s3.1 hv.1.2.2.1 hv.2).mono ?_
        rintro r w ⟨rfl, hw, w1⟩
        have w2 := hv.kept hw
        have fw : fk SM w τ := fk.trans (fo_SM hw).1 hf
        have ew : w.2 0 38 = (S k).2.2.2.2 := by rw [hw.2]; exact hx
        refine ⟨rfl, w_X12_dec35 (by omega) hst hki ?_ ?_ s1 (by omega) s2 w2 hlw (hlM.to fw (fun c i hs => by unfold SM scM scm at hs; omega)) ?_⟩
        · rw [fw 0 28 (by unfold SM scM scm; omega)]; exact e28
        · rw [fw 0 29 (by unfold SM scM scm; omega)]; exact e29
        · rw [ew, nI_1]
          intro t a1 a2 a3
          refine ih t (fk.trans (fk.mono a1 (fun c i h => by unfold st_SM scm at h; unfold SM scM scm; omega)) fw) a2 ⟨⟨?_, ?_, a3, fun p q hp hq => ?_⟩, w1.to a1 (fun c i h => by unfold st_SM scm at h; omega)⟩
          · rw [a1 0 23 (by unfold st_SM scm; omega)]; exact w2.1
          · rw [a1 0 24 (by unfold st_SM scm; omega)]; exact w2.2.1
          · rw [a1 14 _ (by unfold st_SM scm; omega)]; exact w2.2.2.2 p q hp hq
    · rintro u w ⟨fC, kC, hu⟩ ⟨fM, hw⟩
      obtain ⟨s1, s2, s3, s4, s5⟩ := hs m hm9
      exact hnext _ _ _ _ u w s1 s2 s3 (Nat.le_trans s5 (by omega)) fC kC fM hu hw
  · refine good.ask h (-1) ?_ ?_
    · refine ax_Ct.of (lv := [some (ax_r 0), some (ax_i x), some (ax_l y), none, none]) (by decide +kernel) (fun ad => Nat.le_of_ble_eq_true rfl) (fun ad => rfl) ?_
      exact s_X11_decades_0 (d := 59) (by omega) σ _ _ (fun _ => ⟨rfl, fo.rfl'⟩) (fun c1 c2 => absurd ⟨fun q => c1 (zC.mpr q), (may_C (D 86) x h86).mp (by rw [← s14]; exact c2)⟩ g) (fun _ _ => ⟨rfl, fo.rfl'⟩)
    · refine ax_Ct.of (lv := [some (ax_r 0), some (ax_i x), some (ax_l y), none, none]) (by decide +kernel) (fun ad => Nat.le_of_ble_eq_true rfl) (fun ad => rfl) ?_
      exact s_X12_decades_0 (d := 59) (by omega) τ _ _ (fun _ => ⟨rfl, fo.rfl'⟩) (fun _ _ => n_in 86 268) (fun c1 c2 => absurd ⟨fun q => c1 (zM.mpr q), (may_M (D 86) x h86).mp (by rw [← t86]; exact c2)⟩ g) (fun _ _ => ⟨rfl, fo.rfl'⟩)
