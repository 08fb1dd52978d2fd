theorem ct_X8_burningBits {d : Nat} (hd : 1 ≤ d) {σ : ax_S} {n : Nat} {be kt : Nat → Nat} (hn : n ≤ 8) (h9 : σ.1 5 9 = nI n) (hb : ∀ h, h < n → σ.1 25 h = nI (be h) ∧ be h ≤ 99) (hk : ∀ h, h < n → σ.1 32 h = nI (kt h) ∧ kt h ≤ 999) :
    ax_Ct shC d mX8_burningBits [ax_r 6] (fun r u => r = some (ax_i (pn_set n (fun h => decide (be h < kt h)))) ∧ u = σ) σ := by
  obtain ⟨d, rfl⟩ : ∃ e, d = e + 1 := ⟨d - 1, by omega⟩
  refine ax_Ct.of (lv := [some (ax_r 6), none, none]) (by decide +kernel) (fun ad => Nat.le_of_ble_eq_true rfl) (fun ad => rfl) ?_
  refine s_X8_burningBits_0 (by omega) σ ?_
  have loop := lp_up (m := n) (P := fun k => ax_W shC (d + 1) mX8_burningBits (fun r u => r = some (ax_i (pn_set n (fun h => decide (be h < kt h)))) ∧ u = σ) 4 [some (ax_r 6), some (ax_i (pn_set k (fun h => decide (be h < kt h)))), some (ax_i (nI k))] [] σ) ?_ ?_
  · exact loop 0 (Nat.zero_le _)
  · have hl : σ.1 5 9 ≤ nI n := by rw [h9]; exact nI_le (Nat.le_refl n) (by omega)
    exact s_X8_burningBits_4 (by omega) σ _ _ (fun _ => ⟨rfl, rfl⟩) (fun c => absurd hl c) (fun c => absurd hl c) (fun c => absurd hl c)
  · intro k hk1 ih
    have hl : ¬ σ.1 5 9 ≤ nI k := by rw [h9]; exact nI_ge hk1 (by omega)
    obtain ⟨b1, b2⟩ := hb k hk1
    obtain ⟨k1, k2⟩ := hk k hk1
    have e32 : σ.1 32 (Int32.toNatClampNeg (nI k)) = nI (kt k) := by rw [n_tn k]; exact k1
    have e25 : σ.1 25 (Int32.toNatClampNeg (nI k)) = nI (be k) := by rw [n_tn k]; exact b1
    refine s_X8_burningBits_4 (by omega) σ _ _ (fun c => absurd c hl) (fun _ => n_in _ _) (fun _ c => ?_) (fun _ c => ?_)
    · rw [e32, e25] at c
      have c2 : ¬ be k < kt k := by have := (n_le (kt k) (be k)).mp c; omega
      rw [nI_1]
      have hs : pn_set (k + 1) (fun h => decide (be h < kt h)) = pn_set k (fun h => decide (be h < kt h)) := by
        show pn_set k (fun h => decide (be h < kt h)) ||| _ = _
        rw [if_neg (by simpa using c2)]
        exact b_ext fun i hi => by rw [b_or, b_0]; simp
      rw [hs] at ih
      exact ih
    · rw [e32, e25] at c
      have c2 : be k < kt k := by
        have : ¬ kt k ≤ be k := fun z => c ((n_le (kt k) (be k)).mpr z)
        omega
      rw [nI_1]
      have hs : pn_set (k + 1) (fun h => decide (be h < kt h)) = pn_set k (fun h => decide (be h < kt h)) ||| ((1 : Int32) <<< ((nI k) &&& 31)) := by
        show pn_set k (fun h => decide (be h < kt h)) ||| _ = _
        rw [if_pos (by simpa using c2)]
      rw [hs] at ih
      exact ih
theorem sk_iv0 {n : Nat} {fr to : Nat → Nat} {lv : Nat → Bool} {h v : Nat} (hh : h < n) (hv : 1 ≤ v) : sk_iv n fr to lv v 0 [(h, v, 99)] (fun _ => false) (fun _ => 0) 0 := by
  refine ⟨fun x hx => ?_, ?_, ?_⟩
  · simp only [List.mem_singleton] at hx
    subst hx
    exact ⟨hh, hv, Or.inl rfl⟩
  · have := fb_sm_const 0 n
    simp only [sk_qs]; omega
  · simp only [List.length_cons, List.length_nil]; omega
set_option maxHeartbeats 1000000 in
/-- the loop of Storm.fall -/
theorem w_X8_fall {d : Nat} (hd : 9 ≤ d) {σ0 : ax_S} {live : Int32} {n : Nat} {fr to sa : Nat → Nat} {lv : Nat → Bool} {be : Nat → Nat} {kp : Nat → Nat → Nat → Nat} (hok : sk_ok n fr to sa lv kp) (hC : sk_C σ0 live n fr to sa lv be) (hK : sk_K σ0 n kp) {v : Nat} (hv : v ≤ 999) {Q : Option ax_V → ax_S → Prop} :
    ∀ (f i : Nat) (q : List (Nat × Nat × Nat)) (bn : Nat → Bool) (kt : Nat → Nat) (ws : Nat) (u : ax_S), 36 ≤ f + i → sk_iv n fr to lv v i q bn kt ws → sk_S σ0 u i q bn kt ws →
      (∀ (K : Nat → Nat) (W : Nat) (u' : ax_S), sk_go fr to sa lv kp f q bn kt ws = (K, W) → fo scr u' σ0 → (∀ h, h < 8 → u'.1 32 h = nI (K h)) → u'.1 6 8 = nI W → fb_sm K n + W = v → Q (some (ax_i (pn_set n (fun h => decide (be h < K h))))) u') →
      ax_W shC (d + 1) mX8_fall Q 33 [some (ax_r 6), some (ax_i live), none, none, some (ax_i (nI i))] [] u := by
  intro f
  induction f with
  | zero =>
    intro i q bn kt ws u hf hiv hS hQ
    have := sk_iv_len hiv
    omega
  | succ f ih =>
    intro i q bn kt ws u hf hiv hS hQ
    have hlen := sk_iv_len hiv
    obtain ⟨s1, s2, s3, s4, s5, s6⟩ := id hS
    cases q with
    | nil =>
      have hl : u.1 6 6 ≤ nI i := by rw [s3]; exact nI_le (by simp) (by omega)
      have hcons := hiv.2.1
      simp only [sk_qs, Nat.add_zero] at hcons
      refine s_X8_fall_33 (by omega) u _ _ (fun _ => ?_) (fun c => absurd hl c) (fun c => absurd hl c) (fun c => absurd hl c)
      have hkt9 : ∀ h, h < n → kt h ≤ 999 := fun h hh => by
        have := fb_sm_part kt hh; omega
      have hCu := hC.to s1
      have hn8 := hok.1
      refine (ct_X8_burningBits (be := be) (kt := kt) (by omega) hn8 hCu.1 hCu.2.2.2.2.2 (fun h hh => ⟨s5 h (by omega), hkt9 h hh⟩)).mono ?_
      rintro r w ⟨rfl, rfl⟩
      exact ⟨_, rfl, s_X8_fall_85 (by omega) _ _ (hQ kt ws _ rfl s1 s5 s6 hcons)⟩
    | cons x q =>
      obtain ⟨h, p, b⟩ := x
      have hl : ¬ u.1 6 6 ≤ nI i := by rw [s3]; exact nI_ge (by simp) (by simp at hlen ⊢; omega)
      obtain ⟨q1, q2, q3⟩ := s2 0 (h, p, b) rfl
      have hm : ¬ (35 : Int32) ≤ nI i := by
        rw [show (35 : Int32) = nI 35 from rfl]
        exact nI_ge (by simp at hlen; omega) (by omega)
      refine s_X8_fall_33 (by omega) u _ _ (fun c => absurd c hl) (fun _ c => absurd c hm) (fun _ _ => n_in _ _ (by simp at hlen; omega)) (fun _ _ => ?_)
      rw [n_tn i (by simp at hlen; omega)]
      rw [Nat.add_zero] at q1 q2 q3
      rw [q1, q2, q3]
      refine (ct_X8_arrive (by omega) hok hC hK hv hiv hS rfl rfl).mono ?_
      rintro r w ⟨rfl, hw⟩
      refine ⟨rfl, s_X8_fall_75 (by omega) w _ _ ?_⟩
      rw [nI_1]
      obtain ⟨iv2, -, -⟩ := sk_step hok hiv rfl rfl
      refine ih (i + 1) _ _ _ _ w (by omega) iv2 hw (fun K W u' hgo => hQ K W u' ?_)
      rw [← hgo]
      rfl
theorem ct_X8_fall {d : Nat} (hd : 10 ≤ d) {σ : ax_S} {live : Int32} {n : Nat} {fr to sa : Nat → Nat} {lv : Nat → Bool} {be : Nat → Nat} {kp : Nat → Nat → Nat → Nat} (hok : sk_ok n fr to sa lv kp) (hC : sk_C σ live n fr to sa lv be) (hK : sk_K σ n kp) {h v : Nat} (hh : h < n) (hv1 : 1 ≤ v) (hv : v ≤ 999) :
    ax_Ct shC d mX8_fall [ax_r 6, ax_i live, ax_i (nI h), ax_i (nI v)] (fun r u => r = some (ax_i (pn_set n (fun k => decide (be k < (sk_run fr to sa lv kp h v).1 k)))) ∧ fo scr u σ ∧ (∀ k, k < 8 → u.1 32 k = nI ((sk_run fr to sa lv kp h v).1 k)) ∧ u.1 6 8 = nI (sk_run fr to sa lv kp h v).2 ∧ fb_sm (sk_run fr to sa lv kp h v).1 n + (sk_run fr to sa lv kp h v).2 = v) σ := by
  obtain ⟨d, rfl⟩ : ∃ e, d = e + 1 := ⟨d - 1, by omega⟩
  refine ax_Ct.of (lv := [some (ax_r 6), some (ax_i live), some (ax_i (nI h)), some (ax_i (nI v)), none]) (by decide +kernel) (fun ad => Nat.le_of_ble_eq_true rfl) (fun ad => rfl) ?_
  refine s_X8_fall_0 (by omega) σ _ _ _ ((ct_fill (by omega) shC_32 (by omega) 0).mono ?_)
  rintro r u ⟨rfl, hf, h0⟩
  refine ⟨rfl, s_X8_fall_8 (by omega) u _ _ _ ?_⟩
  have hsent : (ax_ui (ax_ui (ax_ui u 6 6 0) 6 7 0) 6 8 0).1 6 6 = nI 0 := by simp [ui_any]; rfl
  refine (ct_X8_send (by omega) hsent (by omega) _ _ _).mono ?_
  rintro r w ⟨rfl, rfl⟩
  refine ⟨rfl, s_X8_fall_30 (by omega) _ _ ?_⟩
  have hfo : fo scr (ax_ui (ax_ui (ax_ui (ax_ui (ax_ui (ax_ui (ax_ui u 6 6 0) 6 7 0) 6 8 0) 33 0 (nI h)) 34 0 (-1)) 35 0 (nI v)) 6 6 (nI (0 + 1))) σ :=
    (((((((hf.mono (fun c i hi => by unfold scr; omega)).ui (by unfold scr; omega)).ui (by unfold scr; omega)).ui (by unfold scr; omega)).ui (by unfold scr; omega)).ui (by unfold scr; omega)).ui (by unfold scr; omega)).ui (by unfold scr; omega)
  refine w_X8_fall (by omega) hok hC hK hv 36 0 [(h, v, 99)] (fun _ => false) (fun _ => 0) 0 _ (by omega) (sk_iv0 hh hv1) ⟨hfo, ?_, ?_, ?_, ?_, ?_⟩ ?_
  · intro j x hx
    cases j with
    | zero =>
      simp at hx
      subst hx
      simp [ui_any]
      rfl
    | succ j => simp at hx
  · simp [ui_any]
  · intro k hk
    simp [ui_any, b_0]
  · intro k hk
    simp [ui_any]
    exact h0 k hk
  · simp [ui_any]; rfl
  · intro K W u' hgo h1 h2 h3 h4
    have hr : sk_run fr to sa lv kp h v = (K, W) := hgo
    rw [hr]
    exact ⟨rfl, h1, h2, h3, h4⟩
