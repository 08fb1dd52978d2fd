/-! ===== DECADES ===== -/
theorem hi_C.ul {σ : ax_S} {n a T i : Nat} {D : Nat → Nat} {H : Nat → Nat → Nat} {x : Int64} (h : hi_C σ n a T D H) : hi_C (ax_ul σ 0 i x) n a T D H := h
theorem dec_ps {d : Nat} (hd : 2 ≤ d) {u v : ax_S} {n : Nat} {E D : Nat → Nat} {dry a T : Nat} {H : Nat → Nat → Nat} {Q : Option ax_V → ax_S → Prop} {x1 x4 : Int32} (hb : bk_ok n E D dry) (hC : bk_C v n E D dry) (hsm : bk_sm v) (hH : hi_C v n a T D H) (fv : fk SB v u) (kv : k17 v u)
    (K : ∀ w, fk SB w u → k17 w u → w.2 0 19 = v.2 0 19 → CB w n E (psD D) dry a T H → ax_W shC (d + 1) mX11_decades Q 25 [some (ax_r 0), some (ax_i x1), none, none, some (ax_i (x4 + 1))] [] w) :
    ax_Ct shC d mX0_passSummer [ax_r 5] (fun r u => r = none ∧ ax_W shC (d + 1) mX11_decades Q 107 [some (ax_r 0), some (ax_i x1), none, none, some (ax_i x4)] [] u) v := by
  refine (ct_X0_passSummer hd hb hC hsm).mono ?_
  rintro r w ⟨rfl, hw, w1, w2⟩
  have h84 := hb.2.2.2.1
  have hH2 : hi_C w n a T (psD D) H := (hH.to hw.1 (by omega)).eqv (fun j hj => psD_out h84 (by omega) (by omega) (by omega))
  exact ⟨rfl, s_X11_decades_107 (by omega) w _ _ (K w (fk.trans (fk.mono hw.1 (fun c i h => by unfold SB rd_S; omega)) fv) ((k17.of hw).trans kv) (by rw [hw.2]) ⟨w1, w2, hH2⟩)⟩
theorem kt_C {n : Nat} {E D : Nat → Nat} {dry : Nat} {v : ax_S} {y : Int64} (hb : bk_ok n E D dry) (hC : bk_C v n E D dry) (hsm : bk_sm v) {a T : Nat} {H : Nat → Nat → Nat} (hH : hi_C v n a T D H) (h0 : ¬ D 84 = 0) (x : Int64) :
    bk_C (ax_ui (ax_ul v 0 19 y) 5 11 (v.1 5 11 ||| (1 : Int32) <<< (nI (dU x % D 84) &&& 31))) n E (dset D (16 + 4 * (dU x % D 84) + 3) 1) dry ∧ bk_sm (ax_ui (ax_ul v 0 19 y) 5 11 (v.1 5 11 ||| (1 : Int32) <<< (nI (dU x % D 84) &&& 31))) ∧ hi_C (ax_ui (ax_ul v 0 19 y) 5 11 (v.1 5 11 ||| (1 : Int32) <<< (nI (dU x % D 84) &&& 31))) n a T (dset D (16 + 4 * (dU x % D 84) + 3) 1) H := by
  have h84 := hb.2.2.2.1
  have hm := Nat.mod_lt (dU x) (show 0 < D 84 by omega)
  have f1 : fk (fun c i => c = 5 ∧ i = 11) (ax_ui (ax_ul v 0 19 y) 5 11 (v.1 5 11 ||| (1 : Int32) <<< (nI (dU x % D 84) &&& 31))) v := (fo.rfl'.ui (by omega) : fo (fun c i => c = 5 ∧ i = 11) _ (ax_ul v 0 19 y)).1
  refine ⟨cu1_C (u := ax_ul v 0 19 y) hb hm hC, hsm.to f1 (by omega), (hH.to f1 (by omega)).eqv (fun j hj => dset_ne (by omega))⟩
theorem w_X11_dec52 {d : Nat} (hd : 2 ≤ d) {u v : ax_S} {n : Nat} {E D : Nat → Nat} {dry a T ki : Nat} {H : Nat → Nat → Nat} {Q : Option ax_V → ax_S → Prop} {x1 x4 : Int32} (hki : ki ≤ 9) (h15 : v.1 0 15 = nI ki) (hb : bk_ok n E D dry) (hC : bk_C v n E D dry) (hsm : bk_sm v) (hH : hi_C v n a T D H) (fv : fk SB v u) (kv : k17 v u)
    (K : ∀ w, fk SB w u → k17 w u → w.2 0 19 = (dcQ ki D (v.2 0 19)).2 → CB w n E (psD (dcQ ki D (v.2 0 19)).1) dry a T H → ax_W shC (d + 1) mX11_decades Q 25 [some (ax_r 0), some (ax_i x1), none, none, some (ax_i (x4 + 1))] [] w) :
    ax_W shC (d + 1) mX11_decades Q 52 [some (ax_r 0), some (ax_i x1), none, none, some (ax_i x4)] [] v := by
  have h84 := hb.2.2.2.1
  have e10 : v.1 5 10 = nI (D 84) := hC.2.1
  refine s_X11_decades_52 (by omega) v _ _ (fun _ => nz64 10) (fun c => ?_) (fun c1 c2 => ?_) (fun _ c2 _ => ?_) (fun c1 c2 => ?_)
  · rw [dr_if10, dr_10, h15] at c
    have c' : ki ≤ dU (dX (v.2 0 19)) % 10 := (n_le _ _).mp c
    refine dec_ps hd (v := ax_ul v 0 19 (dX (v.2 0 19))) hb hC hsm hH fv ((ul_17 _ _).trans kv) (fun w a1 a2 a3 a4 => K w a1 a2 ?_ ?_)
    · rw [a3, ul_at]; unfold dcQ; rw [if_pos c']
    · unfold dcQ; rw [if_pos c']; exact a4
  · rw [dr_if10, dr_10, h15] at c1
    have c' : ¬ ki ≤ dU (dX (v.2 0 19)) % 10 := fun z => c1 ((n_le _ _).mpr z)
    rw [e10] at c2
    have c3 : D 84 = 0 := by have := (n_le (D 84) 0).mp c2; omega
    refine dec_ps hd (v := ax_ul v 0 19 (dX (v.2 0 19))) hb hC hsm hH fv ((ul_17 _ _).trans kv) (fun w a1 a2 a3 a4 => K w a1 a2 ?_ ?_)
    · rw [a3, ul_at]; unfold dcQ; rw [if_neg c', if_pos c3]
    · unfold dcQ; rw [if_neg c', if_pos c3]; exact a4
  · rw [e10] at c2 ⊢
    exact nz64 _ (by have : ¬ D 84 ≤ 0 := fun z => c2 ((n_le (D 84) 0).mpr z)
                     omega)
  · rw [dr_if10, dr_10, h15] at c1
    have c' : ¬ ki ≤ dU (dX (v.2 0 19)) % 10 := fun z => c1 ((n_le _ _).mpr z)
    rw [e10] at c2
    have c3 : ¬ D 84 = 0 := fun z => c2 ((n_le (D 84) 0).mpr (by omega))
    rw [e10, dr_p _ (D 84)]
    obtain ⟨q1, q2, q3⟩ := kt_C (v := ax_ul v 0 19 (dX (v.2 0 19))) (y := dX (dX (v.2 0 19))) hb hC hsm hH c3 (dX (dX (v.2 0 19)))
    have hm := Nat.mod_lt (dU (dX (dX (v.2 0 19)))) (show 0 < D 84 by omega)
    refine dec_ps hd (cu1_ok hb hm) q1 q2 q3 (fun c i hc => ?_) ?_ (fun w a1 a2 a3 a4 => K w a1 a2 ?_ ?_)
    · exact (if_neg (fun z => hc (by unfold SB rd_S; omega))).trans (fv c i hc)
    · exact k17.trans (v := v) ⟨by simp [ax_ui, ax_ul], by simp [ax_ui, ax_ul]⟩ kv
    · unfold dcQ; rw [if_neg c', if_neg c3, a3]
      exact ul_at (ax_ul v 0 19 (dX (v.2 0 19))) (dX (dX (v.2 0 19)))
    · unfold dcQ; rw [if_neg c', if_neg c3]; exact a4
theorem w_X11_dec35 {d : Nat} (hd : 12 ≤ d) {u : ax_S} {n : Nat} {E D : Nat → Nat} {dry a T st ki lw ho : Nat} {H : Nat → Nat → Nat} {L : Nat → List (List (Nat × Nat) × List (Nat × Nat))} {Q : Option ax_V → ax_S → Prop} {x1 x4 : Int32} (hst : st ≤ 9) (hki : ki ≤ 9) (h14 : u.1 0 14 = nI st) (h15 : u.1 0 15 = nI ki) (hb : bk_ok n E D dry) (hn0 : 0 < n) (hl : lg_ok D) (ha : a ≤ 40) (hT : T < 1000000) (hC : bk_C u n E D dry) (hsm : bk_sm u) (hR : hi_R u n a T D H) (hlw : lwok lw ho L) (hlC : lwC u lw ho L)
    (K : ∀ w, fk SB w u → k17 w u → w.2 0 19 = (dcQ ki (dcP n E dry ho L st D (u.2 0 19)).1 (dcP n E dry ho L st D (u.2 0 19)).2.2).2 → CB w n E (psD (dcQ ki (dcP n E dry ho L st D (u.2 0 19)).1 (dcP n E dry ho L st D (u.2 0 19)).2.2).1) dry a (T + (dcP n E dry ho L st D (u.2 0 19)).2.1) H → ax_W shC (d + 1) mX11_decades Q 25 [some (ax_r 0), some (ax_i x1), none, none, some (ax_i (x4 + 1))] [] w) :
    ax_W shC (d + 1) mX11_decades Q 35 [some (ax_r 0), some (ax_i x1), none, none, some (ax_i x4)] [] u := by
  have h84 := hb.2.2.2.1
  have e10 : u.1 5 10 = nI (D 84) := hC.2.1
  have hH : hi_C u n a T D H := hR.next (fun _ _ => rfl) (fun _ _ _ => rfl)
  have eP : st ≤ dU (dX (u.2 0 19)) % 10 → dcP n E dry ho L st D (u.2 0 19) = (D, 0, dX (u.2 0 19)) := fun z => by unfold dcP; rw [if_pos z]
  refine s_X11_decades_35 (by omega) u _ _ (fun _ => nz64 10) (fun _ _ => nz64 10) (fun c c1 => ?_) (fun c c1 c2 => ?_) (fun _ _ c2 _ => ?_) (fun c c1 c2 => ?_) (fun c => ?_)
  · rw [dr_if10, dr_10, h14] at c
    have c0 : st ≤ dU (dX (u.2 0 19)) % 10 := (n_le _ _).mp c
    rw [dr_if10, dr_10, h15] at c1
    have c' : ki ≤ dU (dX (dX (u.2 0 19))) % 10 := (n_le _ _).mp c1
    rw [eP c0] at K
    refine dec_ps (by omega) (v := ax_ul (ax_ul u 0 19 (dX (u.2 0 19))) 0 19 (dX (dX (u.2 0 19)))) hb hC hsm hH (fun _ _ _ => rfl) ((ul_17 _ _).trans (ul_17 _ _)) (fun w a1 a2 a3 a4 => K w a1 a2 ?_ ?_)
    · rw [a3, ul_at]; unfold dcQ; rw [if_pos c']
    · unfold dcQ; rw [if_pos c']; exact a4
  · rw [dr_if10, dr_10, h14] at c
    have c0 : st ≤ dU (dX (u.2 0 19)) % 10 := (n_le _ _).mp c
    rw [dr_if10, dr_10, h15] at c1
    have c' : ¬ ki ≤ dU (dX (dX (u.2 0 19))) % 10 := fun z => c1 ((n_le _ _).mpr z)
    rw [e10] at c2
    have c3 : D 84 = 0 := by have := (n_le (D 84) 0).mp c2; omega
    rw [eP c0] at K
    refine dec_ps (by omega) (v := ax_ul (ax_ul u 0 19 (dX (u.2 0 19))) 0 19 (dX (dX (u.2 0 19)))) hb hC hsm hH (fun _ _ _ => rfl) ((ul_17 _ _).trans (ul_17 _ _)) (fun w a1 a2 a3 a4 => K w a1 a2 ?_ ?_)
    · rw [a3, ul_at]; unfold dcQ; rw [if_neg c', if_pos c3]
    · unfold dcQ; rw [if_neg c', if_pos c3]; exact a4
  · rw [e10] at c2 ⊢
    exact nz64 _ (by have : ¬ D 84 ≤ 0 := fun z => c2 ((n_le (D 84) 0).mpr z)
                     omega)
  · rw [dr_if10, dr_10, h14] at c
    have c0 : st ≤ dU (dX (u.2 0 19)) % 10 := (n_le _ _).mp c
    rw [dr_if10, dr_10, h15] at c1
    have c' : ¬ ki ≤ dU (dX (dX (u.2 0 19))) % 10 := fun z => c1 ((n_le _ _).mpr z)
    rw [e10] at c2
    have c3 : ¬ D 84 = 0 := fun z => c2 ((n_le (D 84) 0).mpr (by omega))
    rw [e10, dr_p _ (D 84)]
    rw [eP c0] at K
    obtain ⟨q1, q2, q3⟩ := kt_C (v := ax_ul (ax_ul u 0 19 (dX (u.2 0 19))) 0 19 (dX (dX (u.2 0 19)))) (y := dX (dX (dX (u.2 0 19)))) hb hC hsm hH c3 (dX (dX (dX (u.2 0 19))))
    have hm := Nat.mod_lt (dU (dX (dX (dX (u.2 0 19))))) (show 0 < D 84 by omega)
    refine dec_ps (by omega) (cu1_ok hb hm) q1 q2 q3 (fun c i hc => ?_) ?_ (fun w a1 a2 a3 a4 => K w a1 a2 ?_ ?_)
    · exact if_neg (fun z => hc (by unfold SB rd_S; omega))
    · exact ⟨by simp [ax_ui, ax_ul], by simp [ax_ui, ax_ul]⟩
    · unfold dcQ; rw [if_neg c', if_neg c3, a3]
      exact ul_at (ax_ul (ax_ul u 0 19 (dX (u.2 0 19))) 0 19 (dX (dX (u.2 0 19)))) (dX (dX (dX (u.2 0 19))))
    · unfold dcQ; rw [if_neg c', if_neg c3]; exact a4
  · rw [dr_if10, dr_10, h14] at c
    have c0 : ¬ st ≤ dU (dX (u.2 0 19)) % 10 := fun z => c ((n_le _ _).mpr z)
    have eN : dcP n E dry ho L st D (u.2 0 19) = (stD n D (kpf E D dry ho L) (pkH E (n - 1) 0 (dU (dX (dX (u.2 0 19))) % hts E n)) (dU (dX (dX (dX (u.2 0 19)))) % 99 + 1), 1, dX (dX (dX (u.2 0 19)))) := by unfold dcP; rw [if_neg c0]
    rw [eN] at K
    refine (ct_X11_strikeByChance (σ := ax_ul u 0 19 (dX (u.2 0 19))) (by omega) (ul_at _ _) hb hn0 hl ha hT hC hsm hR hlw hlC).mono ?_
    rintro r v ⟨rfl, v1, v2, v3, v4⟩
    refine ⟨rfl, w_X11_dec52 (by omega) (u := u) (T := T + 1) hki ?_ (stD_ok hb) v4.1 v4.2.1 v4.2.2 ?_ (v2.trans (ul_17 _ _)) ?_⟩
    · rw [v1 0 15 (by unfold st_SB scr; omega)]; exact h15
    · exact fun c i hc => v1 c i (fun z => hc (by unfold st_SB scr at z; unfold SB rd_S scC scr; omega))
    · rw [v3]; exact K
/-- one decade, both -/
def dc1 (n : Nat) (E : Nat → Nat) (dry ho : Nat) (L : Nat → List (List (Nat × Nat) × List (Nat × Nat))) (st ki : Nat) (s : (Nat → Nat) × Nat × Nat × (Nat → Nat → Nat) × Int64) : (Nat → Nat) × Nat × Nat × (Nat → Nat → Nat) × Int64 :=
  (psD (dcQ ki (dcP n E dry ho L st s.1 s.2.2.2.2).1 (dcP n E dry ho L st s.1 s.2.2.2.2).2.2).1, min 40 (s.2.1 + 1), s.2.2.1 + (dcP n E dry ho L st s.1 s.2.2.2.2).2.1, hpush s.2.1 s.2.2.2.1 s.1, (dcQ ki (dcP n E dry ho L st s.1 s.2.2.2.2).1 (dcP n E dry ho L st s.1 s.2.2.2.2).2.2).2)
def dcS (n : Nat) (E : Nat → Nat) (dry ho : Nat) (L : Nat → List (List (Nat × Nat) × List (Nat × Nat))) (st ki : Nat) (s : (Nat → Nat) × Nat × Nat × (Nat → Nat → Nat) × Int64) : Nat → (Nat → Nat) × Nat × Nat × (Nat → Nat → Nat) × Int64
  | 0 => s
  | k + 1 => dc1 n E dry ho L st ki (dcS n E dry ho L st ki s k)
theorem dcS_ok {n : Nat} {E D : Nat → Nat} {dry ho : Nat} {L : Nat → List (List (Nat × Nat) × List (Nat × Nat))} {st ki a T : Nat} {H : Nat → Nat → Nat} {x : Int64} (hn0 : 0 < n) (hb : bk_ok n E D dry) (hl : lg_ok D) (hh : hi_ok n a E dry H) : ∀ k, D 86 + k ≤ 999 → bk_ok n E (dcS n E dry ho L st ki (D, a, T, H, x) k).1 dry ∧ lg_ok (dcS n E dry ho L st ki (D, a, T, H, x) k).1 ∧ hi_ok n (dcS n E dry ho L st ki (D, a, T, H, x) k).2.1 E dry (dcS n E dry ho L st ki (D, a, T, H, x) k).2.2.2.1 ∧ (dcS n E dry ho L st ki (D, a, T, H, x) k).1 86 = D 86 + k ∧ (dcS n E dry ho L st ki (D, a, T, H, x) k).2.2.1 ≤ T + k
  | 0, _ => ⟨hb, hl, hh, rfl, Nat.le_refl _⟩
  | k + 1, hk => by
    obtain ⟨h1, h2, h3, h4, h5⟩ := dcS_ok (ho := ho) (L := L) (st := st) (ki := ki) (T := T) (x := x) hn0 hb hl hh k (by omega)
    rw [dcS]
    generalize dcS n E dry ho L st ki (D, a, T, H, x) k = s at *
    obtain ⟨p1, p2, p3, p4⟩ := dcP_ok (ho := ho) (L := L) (st := st) (x := s.2.2.2.2) h1 h2 hn0
    obtain ⟨q1, q2, q3⟩ := dcQ_ok (ki := ki) (x := (dcP n E dry ho L st s.1 s.2.2.2.2).2.2) p1 p2
    refine ⟨psD_ok q1 (by omega), psD_lg q1.2.2.2.1 q2 (by omega), hpush_ok h3 h1 h2, ?_, ?_⟩
    · show psD _ 86 = _
      rw [psD_86, q3, p3, h4]; omega
    · show s.2.2.1 + _ ≤ _
      omega
