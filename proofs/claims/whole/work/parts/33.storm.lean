/-! ===== Storm: the class's strokes ===== -/
/-- what a stroke may write -/
def scr (c i : Nat) : Prop := c = 32 ∨ c = 33 ∨ c = 34 ∨ c = 35 ∨ c = 6 ∨ c = 21 ∨ c = 22 ∨ (c = 4 ∧ i = 6)
def sk_by (b : Nat) : Int32 := if b = 99 then -1 else nI b
def sk_q (u : ax_S) (s : Nat) (q : List (Nat × Nat × Nat)) : Prop := ∀ j x, q[j]? = some x → u.1 33 (s + j) = nI x.1 ∧ u.1 34 (s + j) = sk_by x.2.2 ∧ u.1 35 (s + j) = nI x.2.1
/-- how the class holds the belt for a stroke over given live wires -/
def sk_C (σ : ax_S) (live : Int32) (n : Nat) (fr to sa : Nat → Nat) (lv : Nat → Bool) (be : Nat → Nat) : Prop :=
  σ.1 5 9 = nI n ∧ (∃ m, σ.1 5 10 = nI m ∧ m ≤ 16 ∧ ∀ w, lv w = true → w ≤ m) ∧
  (∀ i, i < 32 → bt live i = lv i) ∧
  (∀ w, lv w = true → σ.1 28 w = nI (fr w) ∧ σ.1 29 w = nI (to w) ∧ σ.1 30 w = nI (sa w)) ∧
  (∀ h, h < n → ∀ w, lv w = true → bt (σ.1 31 h) w = (decide (fr w = h) || decide (to w = h))) ∧
  (∀ h, h < n → σ.1 25 h = nI (be h) ∧ be h ≤ 99)
theorem sk_C.to {σ u : ax_S} {live : Int32} {n : Nat} {fr to sa : Nat → Nat} {lv : Nat → Bool} {be : Nat → Nat} (h : sk_C σ live n fr to sa lv be) (hf : fo scr u σ) : sk_C u live n fr to sa lv be := by
  obtain ⟨h1, ⟨m, h2, h3⟩, h4, h5, h6, h7⟩ := h
  have k : ∀ c i, c = 5 ∨ c = 25 ∨ c = 28 ∨ c = 29 ∨ c = 30 ∨ c = 31 → u.1 c i = σ.1 c i := fun c i hc => hf.1 c i (by unfold scr; omega)
  refine ⟨by rw [k 5 9 (by omega)]; exact h1, ⟨m, by rw [k 5 10 (by omega)]; exact h2, h3⟩, h4, fun w hw => ?_, fun h hh w hw => ?_, fun h hh => ?_⟩
  · rw [k 28 w (by omega), k 29 w (by omega), k 30 w (by omega)]; exact h5 w hw
  · rw [k 31 h (by omega)]; exact h6 h hh w hw
  · rw [k 25 h (by omega)]; exact h7 h hh
theorem ct_X8_send {d : Nat} (hd : 1 ≤ d) {σ : ax_S} {s : Nat} (hs : σ.1 6 6 = nI s) (h35 : s < 35) (a b p : Int32) :
    ax_Ct shC d mX8_send [ax_r 6, ax_i a, ax_i b, ax_i p] (fun r u => r = none ∧ u = ax_ui (ax_ui (ax_ui (ax_ui σ 33 s a) 34 s b) 35 s p) 6 6 (nI (s + 1))) σ := by
  obtain ⟨d, rfl⟩ : ∃ e, d = e + 1 := ⟨d - 1, by omega⟩
  refine ax_Ct.of (lv := [some (ax_r 6), some (ax_i a), some (ax_i b), some (ax_i p)]) (by decide +kernel) (fun ad => Nat.le_of_ble_eq_true rfl) (fun ad => rfl) ?_
  have hn : ¬ ((35 : Int32) ≤ σ.1 6 6) := by rw [hs]; exact fun z => absurd ((n_le 35 s).mp z) (by omega)
  refine s_X8_send_0 (by omega) σ a b p (fun c => absurd c hn) (fun _ => by rw [hs]; exact n_in _ _) (fun _ => ⟨rfl, ?_⟩)
  rw [hs, n_tn s, nI_1]
/-- the queue with one more behind it -/
theorem sk_q_push {u : ax_S} {i s : Nat} {q : List (Nat × Nat × Nat)} {x : Nat × Nat × Nat} {z : Int32} (h : sk_q u i q) (hs : i + q.length = s) : sk_q (ax_ui (ax_ui (ax_ui (ax_ui u 33 s (nI x.1)) 34 s (sk_by x.2.2)) 35 s (nI x.2.1)) 6 6 z) i (q ++ [x]) := by
  intro j y hy
  by_cases hj : j < q.length
  · rw [List.getElem?_append_left hj] at hy
    obtain ⟨h1, h2, h3⟩ := h j y hy
    have ne : i + j ≠ s := by omega
    simp [ui_any, ne, h1, h2, h3]
  · by_cases e : j = q.length
    · subst e
      rw [List.getElem?_append_right (Nat.le_refl _)] at hy
      simp at hy
      subst hy
      simp [ui_any, hs]
    · rw [List.getElem?_append_right (by omega)] at hy
      have : ¬ (j - q.length = 0) := by omega
      rw [List.getElem?_cons, if_neg this] at hy
      simp at hy
def sk_pf (c j : Nat) : Prop := c = 33 ∨ c = 34 ∨ c = 35 ∨ (c = 6 ∧ (j = 6 ∨ j = 8))
set_option maxHeartbeats 1000000 in
theorem ct_X8_pass {d : Nat} (hd : 2 ≤ d) {σ : ax_S} {live : Int32} {n : Nat} {fr to sa : Nat → Nat} {lv : Nat → Bool} {be : Nat → Nat} {kp : Nat → Nat → Nat → Nat} (hok : sk_ok n fr to sa lv kp) (hC : sk_C σ live n fr to sa lv be) {h b e i ws : Nat} {q : List (Nat × Nat × Nat)} {on : Int32}
    (hon : ∀ w, w < 32 → bt on w = sk_on fr to lv h b w) (he : e ≤ 999) (hh : h < n) (hws : ws + sk_ws fr to sa lv h b e 17 ≤ 999) (hq : sk_q σ i q) (hsent : σ.1 6 6 = nI (i + q.length)) (hlen : i + (q ++ sk_out fr to sa lv h b e 17).length ≤ 35) (hw8 : σ.1 6 8 = nI ws) :
    ax_Ct shC d mX8_pass [ax_r 6, ax_i (nI h), ax_i on, ax_i (nI e)] (fun r u => r = none ∧ fo sk_pf u σ ∧ sk_q u i (q ++ sk_out fr to sa lv h b e 17) ∧ u.1 6 6 = nI (i + (q ++ sk_out fr to sa lv h b e 17).length) ∧ u.1 6 8 = nI (ws + sk_ws fr to sa lv h b e 17)) σ := by
  obtain ⟨d, rfl⟩ : ∃ e, d = e + 1 := ⟨d - 1, by omega⟩
  obtain ⟨-, ⟨m, h10, hm, hlm⟩, -, hwr, -, -⟩ := hC
  have hn8 := hok.1
  have hwsm : ∀ k j, k + j = 17 → sk_ws fr to sa lv h b e k ≤ sk_ws fr to sa lv h b e 17 := by
    intro k j hkj
    rw [← hkj]
    clear hkj
    induction j with
    | zero => exact Nat.le_refl _
    | succ j ih => rw [← Nat.add_assoc]; simp only [sk_ws]; omega
  refine ax_Ct.of (lv := [some (ax_r 6), some (ax_i (nI h)), some (ax_i on), some (ax_i (nI e)), none, none]) (by decide +kernel) (fun ad => Nat.le_of_ble_eq_true rfl) (fun ad => rfl) ?_
  refine s_X8_pass_0 (by omega) σ _ _ _ ?_
  have stop : ∀ w, m + 1 ≤ w → sk_on fr to lv h b w = false := by
    intro w hw
    cases hl : lv w
    · simp [sk_on, hl]
    · have := hlm w hl; omega
  have loop := lp_up (m := m + 1) (P := fun k => ∀ u, fo sk_pf u σ → sk_q u i (q ++ sk_out fr to sa lv h b e k) → u.1 6 6 = nI (i + (q ++ sk_out fr to sa lv h b e k).length) → u.1 6 8 = nI (ws + sk_ws fr to sa lv h b e k) →
    ax_W shC (d + 1) mX8_pass (fun r u => r = none ∧ fo sk_pf u σ ∧ sk_q u i (q ++ sk_out fr to sa lv h b e 17) ∧ u.1 6 6 = nI (i + (q ++ sk_out fr to sa lv h b e 17).length) ∧ u.1 6 8 = nI (ws + sk_ws fr to sa lv h b e 17)) 3 [some (ax_r 6), some (ax_i (nI h)), some (ax_i on), some (ax_i (nI e)), some (ax_i (nI k)), none] [] u) ?_ ?_
  · exact loop 0 (Nat.zero_le _) σ fo.rfl' (by simpa [sk_out] using hq) (by simpa [sk_out] using hsent) (by simpa [sk_ws] using hw8)
  · intro u hf h1 h2 h3
    have hl : (u.1 5 10) < nI (m + 1) := by rw [hf.1 5 10 (by unfold sk_pf; omega), h10]; exact nI_lt (by omega) (by omega)
    obtain ⟨s1, s2⟩ := sk_out_stop (sa := sa) (e := e) stop (17 - (m + 1))
    rw [show m + 1 + (17 - (m + 1)) = 17 by omega] at s1 s2
    refine s_X8_pass_3 (by omega) u _ _ _ _ (fun _ => ⟨rfl, hf, by rw [s1]; exact h1, by rw [s1]; exact h2, by rw [s2]; exact h3⟩) (fun c => absurd hl c) (fun c => absurd hl c) (fun c => absurd hl c) (fun c => absurd hl c) (fun c => absurd hl c) (fun c => absurd hl c) (fun c => absurd hl c) (fun c => absurd hl c)
  · intro k hk ih u hf h1 h2 h3
    have hl : ¬ (u.1 5 10) < nI k := by rw [hf.1 5 10 (by unfold sk_pf; omega), h10]; exact fun z => absurd ((n_lt m k).mp z) (by omega)
    have h17 : ¬ ((17 : Int32) ≤ nI k) := fun z => absurd ((n_le 17 k).mp z) (by omega)
    have hbit := hon k (by omega)
    have e30 : u.1 30 (Int32.toNatClampNeg (nI k)) = σ.1 30 k := by rw [n_tn k, hf.1 30 k (by unfold sk_pf; omega)]
    have e28 : u.1 28 (Int32.toNatClampNeg (nI k)) = σ.1 28 k := by rw [n_tn k, hf.1 28 k (by unfold sk_pf; omega)]
    have e29 : u.1 29 (Int32.toNatClampNeg (nI k)) = σ.1 29 k := by rw [n_tn k, hf.1 29 k (by unfold sk_pf; omega)]
    cases hk2 : sk_on fr to lv h b k
    · -- the wire isn't among them
      have c0 : ((on >>> ((nI k) &&& 31)) &&& (1 : Int32)) = 0 := (pn_bitOf0 on k (by omega)).mpr (by rw [hbit, hk2])
      have nn : sk_out fr to sa lv h b e (k + 1) = sk_out fr to sa lv h b e k := by rw [sk_out, hk2]; simp
      have nw : sk_ws fr to sa lv h b e (k + 1) = sk_ws fr to sa lv h b e k := by rw [sk_ws, hk2]; simp
      refine s_X8_pass_3 (by omega) u _ _ _ _ (fun c => absurd c hl) (fun _ c => absurd c h17) (fun _ _ c => absurd c0 c) (fun _ _ c => absurd c0 c) (fun _ _ c => absurd c0 c) (fun _ _ c => absurd c0 c) (fun _ _ c => absurd c0 c) (fun _ _ c => absurd c0 c) (fun _ _ _ => ?_)
      rw [nI_1]
      exact ih u hf (by rw [nn]; exact h1) (by rw [nn]; exact h2) (by rw [nw]; exact h3)
    · have c1 : ¬ ((on >>> ((nI k) &&& 31)) &&& (1 : Int32)) = 0 := fun z => by
        have := (pn_bitOf0 on k (by omega)).mp z
        rw [hbit, hk2] at this; cases this
      have hon' := hk2
      simp only [sk_on, Bool.and_eq_true] at hon'
      obtain ⟨g1, g2, g3⟩ := hwr k hon'.1
      obtain ⟨-, f1, f2, f3, f4⟩ := hok.2.1 k hon'.1
      have hmin : (if u.1 30 (Int32.toNatClampNeg (nI k)) < nI e then u.1 30 (Int32.toNatClampNeg (nI k)) else nI e) = nI (min e (sa k)) := by
        rw [e30, g3]; exact n_min e (sa k)
      have hws1 := hwsm (k + 1) (17 - (k + 1)) (by omega)
      have nw : sk_ws fr to sa lv h b e (k + 1) = sk_ws fr to sa lv h b e k + min e (sa k) := by rw [sk_ws, hk2]; simp
      refine s_X8_pass_3 (by omega) u _ _ _ _ (fun c => absurd c hl) (fun _ c => absurd c h17) (fun _ _ _ => n_in k 17) (fun _ _ _ c => ?_) (fun _ _ _ _ => n_in k 17) (fun _ _ _ _ _ => n_in k 17) (fun _ _ _ _ _ => n_in k 17) (fun _ _ _ c => ?_) (fun _ _ c => absurd c1 c)
      · -- nothing comes
        rw [hmin] at c ⊢
        have hle : e ≤ min e (sa k) := (n_le e (min e (sa k))).mp c
        have nn : sk_out fr to sa lv h b e (k + 1) = sk_out fr to sa lv h b e k := by
          rw [sk_out]
          have : ¬ (sa k < e) := by omega
          simp [this]
        rw [nI_1, h3, nI_add]
        refine ih _ (hf.ui (by unfold sk_pf; omega)) ?_ ?_ ?_
        · rw [nn]
          intro j x hx
          have := h1 j x hx
          simpa [ui_any] using this
        · rw [nn]; simpa [ui_any] using h2
        · rw [nw, ui_same]; congr 1; omega
      · rw [hmin] at c ⊢
        have hlt : ¬ e ≤ min e (sa k) := fun z => c ((n_le e (min e (sa k))).mpr z)
        have hse : sa k < e := by omega
        have nn : sk_out fr to sa lv h b e (k + 1) = sk_out fr to sa lv h b e k ++ [(sk_ot fr to h k, e - sa k, k)] := by
          rw [sk_out, hk2]; simp [hse]
        have hmono := sk_out_mono (fr := fr) (to := to) (sa := sa) (lv := lv) (h := h) (b := b) (e := e) (k + 1) (17 - (k + 1))
        rw [show k + 1 + (17 - (k + 1)) = 17 by omega, nn] at hmono
        simp only [List.length_append, List.length_cons, List.length_nil] at hmono hlen h2
        have hot : (if (¬ u.1 28 (Int32.toNatClampNeg (nI k)) = nI h) then u.1 28 (Int32.toNatClampNeg (nI k)) else u.1 29 (Int32.toNatClampNeg (nI k))) = nI (sk_ot fr to h k) := by
          rw [e28, e29, g1, g2, sk_ot]
          by_cases ee : fr k = h
          · rw [if_neg (by rw [ee]; simp), if_pos ee]
          · rw [if_pos (fun z => ee ((n_eq (fr k) h).mp z)), if_neg ee]
        rw [hot, n_sub e (min e (sa k)), show e - min e (sa k) = e - sa k by omega, h3, nI_add]
        have hsent' : (ax_ui u 6 8 (nI (ws + sk_ws fr to sa lv h b e k + min e (sa k)))).1 6 6 = nI (i + (q.length + (sk_out fr to sa lv h b e k).length)) := by simpa [ui_any] using h2
        refine (ct_X8_send (by omega) hsent' (by omega) _ _ _).mono ?_
        rintro r v ⟨rfl, rfl⟩
        refine ⟨rfl, s_X8_pass_114 (by omega) _ _ _ _ _ ?_⟩
        rw [nI_1]
        have hbk : nI k = sk_by k := by unfold sk_by; rw [if_neg (by omega)]
        have hq8 : sk_q (ax_ui u 6 8 (nI (ws + sk_ws fr to sa lv h b e k + min e (sa k)))) i (q ++ sk_out fr to sa lv h b e k) := by
          intro j x hx
          have := h1 j x hx
          simpa [ui_any] using this
        have hpush := sk_q_push (x := (sk_ot fr to h k, e - sa k, k)) (s := i + (q.length + (sk_out fr to sa lv h b e k).length)) (z := nI (i + (q.length + (sk_out fr to sa lv h b e k).length) + 1)) hq8 (by rw [List.length_append])
        refine ih _ ?_ ?_ ?_ ?_
        · exact ((((hf.ui (by unfold sk_pf; omega)).ui (by unfold sk_pf; omega)).ui (by unfold sk_pf; omega)).ui (by unfold sk_pf; omega)).ui (by unfold sk_pf; omega)
        · rw [nn, ← List.append_assoc]
          simpa only [← hbk] using hpush
        · rw [nn, ui_same]
          simp only [List.length_append, List.length_cons, List.length_nil]
          congr 1
        · rw [nw]
          simp [ui_any]
          congr 1; omega
