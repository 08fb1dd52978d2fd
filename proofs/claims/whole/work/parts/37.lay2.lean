def mq (u : ax_S) (s : Nat) (q : List (Nat × Nat × Nat)) : Prop := ∀ j x, q[j]? = some x → u.1 17 (s + j) = nI x.1 ∧ u.1 19 (s + j) = sk_by x.2.2 ∧ u.1 18 (s + j) = nI x.2.1
theorem mq_push {u : ax_S} {i s : Nat} {q : List (Nat × Nat × Nat)} {x : Nat × Nat × Nat} {z : Int32} (h : mq u i q) (hs : i + q.length = s) : mq (ax_ui (ax_ui (ax_ui (ax_ui u 17 s (nI x.1)) 18 s (nI x.2.1)) 19 s (sk_by x.2.2)) 0 34 z) i (q ++ [x]) := by
  intro j y hy
  by_cases hj : j < q.length
  · rw [List.getElem?_append_left hj] at hy
    obtain ⟨h1, h2, h3⟩ := h j y hy
    have ne : i + j ≠ s := by omega
    simp [ui_any, ne, h1, h2, h3]
  · by_cases e : j = q.length
    · subst e
      rw [List.getElem?_append_right (Nat.le_refl _)] at hy
      simp at hy
      subst hy
      simp [ui_any, hs]
    · rw [List.getElem?_append_right (by omega)] at hy
      have : ¬ (j - q.length = 0) := by omega
      rw [List.getElem?_cons, if_neg this] at hy
      simp at hy
def mpf (c j : Nat) : Prop := c = 17 ∨ c = 18 ∨ c = 19 ∨ (c = 0 ∧ (j = 34 ∨ j = 35))
theorem mq_fo {S : Nat → Nat → Prop} {u v : ax_S} {i : Nat} {q : List (Nat × Nat × Nat)} (h : mq u i q) (hf : fo S v u) (hS : ∀ c j, S c j → c ≠ 17 ∧ c ≠ 18 ∧ c ≠ 19) : mq v i q := by
  intro j x hx
  obtain ⟨h1, h2, h3⟩ := h j x hx
  exact ⟨by rw [hf.1 17 _ (fun z => (hS _ _ z).1 rfl)]; exact h1, by rw [hf.1 19 _ (fun z => (hS _ _ z).2.2 rfl)]; exact h2, by rw [hf.1 18 _ (fun z => (hS _ _ z).2.1 rfl)]; exact h3⟩
/-- the reference's goOver: one wire's part -/
theorem ct_X12_goOver {d : Nat} (hd : 2 ≤ d) {τ : ax_S} {n : Nat} {D : Nat → Nat} {kp : Nat → Nat → Nat → Nat} (hok : dk_ok n D kp) (hm : mD τ D) {k h e i ws : Nat} {q : List (Nat × Nat × Nat)} (hk : k < D 84) (hh : h < n) (hat : bk_w D k 0 = h ∨ bk_w D k 1 = h) (he : e ≤ 999) (hq : mq τ i q) (hs : τ.1 0 34 = nI (i + q.length)) (hlen : i + q.length < 36) (hws : τ.1 0 35 = nI ws) (hw9 : ws + min e (bk_w D k 2) ≤ 999) :
    ax_Ct shM d mX12_goOver [ax_r 0, ax_i (nI k), ax_i (nI h), ax_i (nI e)] (fun r u => r = none ∧ fo mpf u τ ∧ mq u i (q ++ (if bk_w D k 2 < e then [(sk_ot (fun w => bk_w D w 0) (fun w => bk_w D w 1) h k, e - bk_w D k 2, k)] else [])) ∧ u.1 0 34 = nI (i + (q ++ (if bk_w D k 2 < e then [(sk_ot (fun w => bk_w D w 0) (fun w => bk_w D w 1) h k, e - bk_w D k 2, k)] else [])).length) ∧ u.1 0 35 = nI (ws + min e (bk_w D k 2))) τ := by
  obtain ⟨d, rfl⟩ : ∃ e, d = e + 1 := ⟨d - 1, by omega⟩
  obtain ⟨hn8, hM, hw, -, -⟩ := hok
  obtain ⟨w0, w1, w2, w3, w4⟩ := hw k hk
  refine ax_Ct.of (lv := [some (ax_r 0), some (ax_i (nI k)), some (ax_i (nI h)), some (ax_i (nI e)), none]) (by decide +kernel) (fun ad => Nat.le_of_ble_eq_true rfl) (fun ad => rfl) ?_
  have b2 : τ.1 15 (Int32.toNatClampNeg ((16 : Int32) + (4 : Int32) * nI k + (2 : Int32))) = nI (bk_w D k 2) := hm.w k 2 (by omega) (by omega)
  have b1 : τ.1 15 (Int32.toNatClampNeg ((16 : Int32) + (4 : Int32) * nI k + (1 : Int32))) = nI (bk_w D k 1) := hm.w k 1 (by omega) (by omega)
  have b0 : τ.1 15 (Int32.toNatClampNeg ((16 : Int32) + (4 : Int32) * nI k + (0 : Int32))) = nI (bk_w D k 0) := hm.w k 0 (by omega) (by omega)
  have i2 : vp_in ((16 : Int32) + (4 : Int32) * nI k + (2 : Int32)) 268 := by show vp_in ((16 : Int32) + (4 : Int32) * nI k + nI 2) 268; rw [n_w]; exact n_in _ _
  have i1 : vp_in ((16 : Int32) + (4 : Int32) * nI k + (1 : Int32)) 268 := by show vp_in ((16 : Int32) + (4 : Int32) * nI k + nI 1) 268; rw [n_w]; exact n_in _ _
  have i0 : vp_in ((16 : Int32) + (4 : Int32) * nI k + (0 : Int32)) 268 := by show vp_in ((16 : Int32) + (4 : Int32) * nI k + nI 0) 268; rw [n_w]; exact n_in _ _
  have hmin : (if (nI (bk_w D k 2)) < nI e then (nI (bk_w D k 2)) else nI e) = nI (min e (bk_w D k 2)) := n_min e (bk_w D k 2)
  by_cases hse : bk_w D k 2 < e
  · have hsub : nI e - nI (bk_w D k 2) = nI (e - bk_w D k 2) := n_sub _ _
    have hneg : ¬ (nI e - τ.1 15 (Int32.toNatClampNeg ((16 : Int32) + (4 : Int32) * nI k + (2 : Int32)))) ≤ 0 := by
      rw [b2, hsub]; exact fun z => absurd ((n_le (e - bk_w D k 2) 0).mp z) (by omega)
    refine s_X12_goOver_0 (by omega) τ _ _ _ i2 (fun c => absurd c hneg) (fun _ => i0) (fun _ => i1) (fun _ => by rw [hs]; exact n_in _ _) (fun _ => ⟨rfl, ?_⟩)
    rw [b2, b1, b0, hmin, hsub, hs, hws, n_tn (i + q.length), nI_add, nI_1, n_add]
    have hot : nI (bk_w D k 0 + bk_w D k 1) - nI h = nI (sk_ot (fun w => bk_w D w 0) (fun w => bk_w D w 1) h k) := by
      rw [n_sub _ _ (by omega)]
      congr 1
      show _ = if bk_w D k 0 = h then bk_w D k 1 else bk_w D k 0
      split <;> omega
    rw [hot]
    have hbk : nI k = sk_by k := by unfold sk_by; rw [if_neg (by omega)]
    have hq0 : mq (ax_ui τ 0 35 (nI (ws + min e (bk_w D k 2)))) i q := by
      intro j x hx
      have := hq j x hx
      simpa [ui_any] using this
    have hp := mq_push (x := (sk_ot (fun w => bk_w D w 0) (fun w => bk_w D w 1) h k, e - bk_w D k 2, k)) (s := i + q.length) (z := nI (i + q.length + 1)) hq0 rfl
    have z0 : fo mpf τ τ := fo.rfl'
    simp only [hse, if_true]
    refine ⟨((((z0.ui (by unfold mpf; omega)).ui (by unfold mpf; omega)).ui (by unfold mpf; omega)).ui (by unfold mpf; omega)).ui (by unfold mpf; omega), by simpa only [← hbk] using hp, ?_, ?_⟩
    · rw [ui_same, List.length_append]; rfl
    · simp [ui_any]
  · have hle : (nI e - τ.1 15 (Int32.toNatClampNeg ((16 : Int32) + (4 : Int32) * nI k + (2 : Int32)))) ≤ 0 := by
      rw [b2, Int32.le_iff_toInt_le, pk_sub_toInt (by omega) (by omega)]
      have : Int32.toInt 0 = 0 := by decide
      omega
    refine s_X12_goOver_0 (by omega) τ _ _ _ i2 (fun _ => ⟨rfl, ?_⟩) (fun c => absurd hle c) (fun c => absurd hle c) (fun c => absurd hle c) (fun c => absurd hle c)
    rw [b2, hmin, hws, nI_add]
    simp only [hse, if_false, List.append_nil]
    have z0 : fo mpf τ τ := fo.rfl'
    refine ⟨z0.ui (by unfold mpf; omega), ?_, ?_, ?_⟩
    · intro j x hx
      have := hq j x hx
      simpa [ui_any] using this
    · simpa [ui_any] using hs
    · rw [ui_same]
/-- what a house keeps, by the reference's law or without -/
def mk_K (τ : ax_S) (n : Nat) (kp : Nat → Nat → Nat → Nat) : Prop :=
  ∀ u h p c, fo scm u τ → h < n → p ≤ 999 → 1 ≤ c → c ≤ 17 → ax_Ct shM 8 mX12_keepsBy [ax_r 0, ax_i (nI h), ax_i (nI p), ax_i (nI c)] (fun r v => r = some (ax_i (nI (kp h p c))) ∧ fo (fun c _ => c = 9 ∨ c = 10) v u) u
def mS (τ u : ax_S) (i : Nat) (q : List (Nat × Nat × Nat)) (kt : Nat → Nat) (ws : Nat) : Prop :=
  fo scm u τ ∧ mq u i q ∧ u.1 0 34 = nI (i + q.length) ∧ (∀ h, h < 8 → u.1 20 h = nI (kt h)) ∧ u.1 0 35 = nI ws
set_option maxHeartbeats 2000000 in
/-- the loop over the wires of one part -/
theorem w_X12_lay166 {d : Nat} (hd : 3 ≤ d) {τ : ax_S} {n : Nat} {D : Nat → Nat} {kp : Nat → Nat → Nat → Nat} (hok : dk_ok n D kp) (hm : mD τ D) {Q : Option ax_V → ax_S → Prop} {i h p b c e ws : Nat} {q : List (Nat × Nat × Nat)} {kt : Nat → Nat} {x3 : Int32} (hi : i < 36) (hh : h < n) (hb : b = 99 ∨ b < 17) (hc0 : 1 ≤ c) (hc17 : c ≤ 17) (he : e ≤ 999)
    (hlen : i + ((h, p, b) :: (q ++ sk_out (fun w => bk_w D w 0) (fun w => bk_w D w 1) (fun w => bk_w D w 2) (dk_lv D) h b e 17)).length ≤ 35) (hws : ws + sk_ws (fun w => bk_w D w 0) (fun w => bk_w D w 1) (fun w => bk_w D w 2) (dk_lv D) h b e 17 ≤ 999)
    (hend : ∀ u, mS τ u i ((h, p, b) :: (q ++ sk_out (fun w => bk_w D w 0) (fun w => bk_w D w 1) (fun w => bk_w D w 2) (dk_lv D) h b e 17)) kt (ws + sk_ws (fun w => bk_w D w 0) (fun w => bk_w D w 1) (fun w => bk_w D w 2) (dk_lv D) h b e 17) → ax_W shM (d + 1) mX12_layStroke Q 43 [some (ax_r 0), none, none, some (ax_i x3), some (ax_i (nI (i + 1))), none, none, none, none, none, none] [] u) :
    ∀ k, k ≤ D 84 → ∀ u, mS τ u i ((h, p, b) :: (q ++ sk_out (fun w => bk_w D w 0) (fun w => bk_w D w 1) (fun w => bk_w D w 2) (dk_lv D) h b e k)) kt (ws + sk_ws (fun w => bk_w D w 0) (fun w => bk_w D w 1) (fun w => bk_w D w 2) (dk_lv D) h b e k) →
      ax_W shM (d + 1) mX12_layStroke Q 166 [some (ax_r 0), none, none, some (ax_i x3), some (ax_i (nI i)), some (ax_i (nI h)), none, some (ax_i (nI c)), none, some (ax_i (nI e)), some (ax_i (nI k))] [] u := by
  have hwsm : ∀ k j, k + j = 17 → sk_ws (fun w => bk_w D w 0) (fun w => bk_w D w 1) (fun w => bk_w D w 2) (dk_lv D) h b e k ≤ sk_ws (fun w => bk_w D w 0) (fun w => bk_w D w 1) (fun w => bk_w D w 2) (dk_lv D) h b e 17 := by
    intro k j hkj
    rw [← hkj]
    clear hkj
    induction j with
    | zero => exact Nat.le_refl _
    | succ j ih => rw [← Nat.add_assoc]; simp only [sk_ws]; omega
  have hM := hok.2.1
  have hn8 := hok.1
  intro k hk
  refine lp_up (m := D 84) (P := fun k => ∀ u, mS τ u i ((h, p, b) :: (q ++ sk_out (fun w => bk_w D w 0) (fun w => bk_w D w 1) (fun w => bk_w D w 2) (dk_lv D) h b e k)) kt (ws + sk_ws (fun w => bk_w D w 0) (fun w => bk_w D w 1) (fun w => bk_w D w 2) (dk_lv D) h b e k) →
      ax_W shM (d + 1) mX12_layStroke Q 166 [some (ax_r 0), none, none, some (ax_i x3), some (ax_i (nI i)), some (ax_i (nI h)), none, some (ax_i (nI c)), none, some (ax_i (nI e)), some (ax_i (nI k))] [] u) ?_ ?_ k hk
  · intro u hS
    have hmu := hm.to hS.1 scm15
    have hl : u.1 15 84 ≤ nI (D 84) := by rw [hmu 84 (by omega)]; exact nI_le (Nat.le_refl _) (by omega)
    obtain ⟨s1, s2⟩ := sk_out_stop (fr := fun w => bk_w D w 0) (to := fun w => bk_w D w 1) (sa := fun w => bk_w D w 2) (lv := dk_lv D) (h := h) (b := b) (e := e) (k := D 84) (fun w hw => dk_on_out hw) (17 - D 84)
    rw [show D 84 + (17 - D 84) = 17 by omega] at s1 s2
    rw [← s1, ← s2] at hS
    refine s_X12_layStroke_166 (by omega) u _ _ _ _ _ _ (fun _ => ?_) (fun c => absurd hl c) (fun c => absurd hl c) (fun c => absurd hl c) (fun c => absurd hl c) (fun c => absurd hl c) (fun c => absurd hl c) (fun c => absurd hl c) (fun c => absurd hl c) (fun c => absurd hl c) (fun c => absurd hl c)
    rw [nI_1]
    exact hend u hS
  · intro k hk ih u hS
    obtain ⟨s1, s2, s3, s4, s5⟩ := id hS
    have hmu := hm.to s1 scm15
    have hl : ¬ u.1 15 84 ≤ nI k := by rw [hmu 84 (by omega)]; exact nI_ge hk (by omega)
    have hc1 : ¬ nI c ≤ 0 := fun z => absurd ((n_le c 0).mp z) (by omega)
    have hby : u.1 19 (Int32.toNatClampNeg (nI i)) = sk_by b := by
      rw [n_tn i]; have := (s2 0 (h, p, b) rfl).2.1; rwa [Nat.add_zero] at this
    have hon : (nI k = sk_by b) ↔ k = b := by
      unfold sk_by
      rcases hb with rfl | hb
      · rw [if_pos rfl]
        exact ⟨fun z => absurd z (n_m1 k), fun z => by omega⟩
      · rw [if_neg (by omega)]; exact n_eq k b
    obtain ⟨w0, w1, w2, w3, w4⟩ := hok.2.2.1 k hk
    have b3 : u.1 15 (Int32.toNatClampNeg ((16 : Int32) + (4 : Int32) * nI k + (3 : Int32))) = nI (bk_w D k 3) := hmu.w k 3 (by omega) (by omega)
    have b2 : u.1 15 (Int32.toNatClampNeg ((16 : Int32) + (4 : Int32) * nI k + (2 : Int32))) = nI (bk_w D k 2) := hmu.w k 2 (by omega) (by omega)
    have b1 : u.1 15 (Int32.toNatClampNeg ((16 : Int32) + (4 : Int32) * nI k + (1 : Int32))) = nI (bk_w D k 1) := hmu.w k 1 (by omega) (by omega)
    have b0 : u.1 15 (Int32.toNatClampNeg ((16 : Int32) + (4 : Int32) * nI k + (0 : Int32))) = nI (bk_w D k 0) := hmu.w k 0 (by omega) (by omega)
    have i3 : vp_in ((16 : Int32) + (4 : Int32) * nI k + (3 : Int32)) 268 := by show vp_in ((16 : Int32) + (4 : Int32) * nI k + nI 3) 268; rw [n_w]; exact n_in _ _
    have i2 : vp_in ((16 : Int32) + (4 : Int32) * nI k + (2 : Int32)) 268 := by show vp_in ((16 : Int32) + (4 : Int32) * nI k + nI 2) 268; rw [n_w]; exact n_in _ _
    have i1 : vp_in ((16 : Int32) + (4 : Int32) * nI k + (1 : Int32)) 268 := by show vp_in ((16 : Int32) + (4 : Int32) * nI k + nI 1) 268; rw [n_w]; exact n_in _ _
    have i0 : vp_in ((16 : Int32) + (4 : Int32) * nI k + (0 : Int32)) 268 := by show vp_in ((16 : Int32) + (4 : Int32) * nI k + nI 0) 268; rw [n_w]; exact n_in _ _
    have skip : sk_on (fun w => bk_w D w 0) (fun w => bk_w D w 1) (dk_lv D) h b k = false → ax_W shM (d + 1) mX12_layStroke Q 166 [some (ax_r 0), none, none, some (ax_i x3), some (ax_i (nI i)), some (ax_i (nI h)), none, some (ax_i (nI c)), none, some (ax_i (nI e)), some (ax_i (nI k + 1))] [] u := by
      intro hf
      rw [nI_1]
      refine ih u ?_
      have n1 : sk_out (fun w => bk_w D w 0) (fun w => bk_w D w 1) (fun w => bk_w D w 2) (dk_lv D) h b e (k + 1) = sk_out (fun w => bk_w D w 0) (fun w => bk_w D w 1) (fun w => bk_w D w 2) (dk_lv D) h b e k := by rw [sk_out, hf]; simp
      have n2 : sk_ws (fun w => bk_w D w 0) (fun w => bk_w D w 1) (fun w => bk_w D w 2) (dk_lv D) h b e (k + 1) = sk_ws (fun w => bk_w D w 0) (fun w => bk_w D w 1) (fun w => bk_w D w 2) (dk_lv D) h b e k := by rw [sk_ws, hf]; simp
      rw [n1, n2]; exact hS
    have hiff : sk_on (fun w => bk_w D w 0) (fun w => bk_w D w 1) (dk_lv D) h b k = true ↔ (¬ k = b ∧ (bk_w D k 3 = 0 ∧ ¬ 9 ≤ bk_w D k 2) ∧ (bk_w D k 0 = h ∨ bk_w D k 1 = h)) := by
      simp only [sk_on, dk_lv, bk_lv, Bool.and_eq_true, Bool.or_eq_true, decide_eq_true_eq, Bool.not_eq_true', decide_eq_false_iff_not]
      constructor
      · rintro ⟨⟨-, q2, q3⟩, q1, q4⟩
        exact ⟨q1, ⟨q2, by omega⟩, q4⟩
      · rintro ⟨q1, ⟨q2, q3⟩, q4⟩
        exact ⟨⟨hk, q2, by omega⟩, q1, q4⟩
    have nfalse : (¬ (¬ k = b ∧ (bk_w D k 3 = 0 ∧ ¬ 9 ≤ bk_w D k 2) ∧ (bk_w D k 0 = h ∨ bk_w D k 1 = h))) → sk_on (fun w => bk_w D w 0) (fun w => bk_w D w 1) (dk_lv D) h b k = false := by
      intro hn
      cases hs : sk_on (fun w => bk_w D w 0) (fun w => bk_w D w 1) (dk_lv D) h b k
      · rfl
      · exact absurd (hiff.mp hs) hn
    have e3 : (nI (bk_w D k 3) = 0) ↔ bk_w D k 3 = 0 := n_eq _ 0
    have e2 : ((9 : Int32) ≤ nI (bk_w D k 2)) ↔ 9 ≤ bk_w D k 2 := n_le 9 _
    have e1 : (nI (bk_w D k 1) = nI h) ↔ bk_w D k 1 = h := n_eq _ _
    have e0 : (nI (bk_w D k 0) = nI h) ↔ bk_w D k 0 = h := n_eq _ _
    refine s_X12_layStroke_166 (by omega) u _ _ _ _ _ _ (fun c => absurd c hl) (fun _ c => absurd c hc1) (fun _ _ => n_in _ _) (fun _ _ c => ?_) (fun _ _ _ => i3) (fun _ _ _ _ => i2) (fun _ _ _ c => ?_) (fun _ _ _ _ => i0) (fun _ _ _ _ _ => i1) (fun _ _ _ _ c => ?_) (fun _ _ g1 g2 g3 => ?_)
    · rw [hby] at c
      exact skip (nfalse (fun z => z.1 (hon.mp c)))
    · rw [b3, b2, e3, e2, Classical.not_not] at c
      exact skip (nfalse (fun z => c z.2.1))
    · rw [b0, b1, e0, e1, Classical.not_not] at c
      exact skip (nfalse (fun z => c z.2.2))
    · rw [hby] at g1
      rw [b3, b2, e3, e2, Classical.not_not] at g2
      rw [b0, b1, e0, e1, Classical.not_not] at g3
      have hont := hiff.mpr ⟨fun z => g1 (hon.mpr z), g2, g3⟩
      have hws1 := hwsm (k + 1) (17 - (k + 1)) (by omega)
      have n2 : sk_ws (fun w => bk_w D w 0) (fun w => bk_w D w 1) (fun w => bk_w D w 2) (dk_lv D) h b e (k + 1) = sk_ws (fun w => bk_w D w 0) (fun w => bk_w D w 1) (fun w => bk_w D w 2) (dk_lv D) h b e k + min e (bk_w D k 2) := by rw [sk_ws, hont]; simp
      have n1 : sk_out (fun w => bk_w D w 0) (fun w => bk_w D w 1) (fun w => bk_w D w 2) (dk_lv D) h b e (k + 1) = sk_out (fun w => bk_w D w 0) (fun w => bk_w D w 1) (fun w => bk_w D w 2) (dk_lv D) h b e k ++ (if bk_w D k 2 < e then [(sk_ot (fun w => bk_w D w 0) (fun w => bk_w D w 1) h k, e - bk_w D k 2, k)] else []) := by
        rw [sk_out, hont]; simp
      have hmono := sk_out_mono (fr := fun w => bk_w D w 0) (to := fun w => bk_w D w 1) (sa := fun w => bk_w D w 2) (lv := dk_lv D) (h := h) (b := b) (e := e) k (17 - k)
      rw [show k + (17 - k) = 17 by omega] at hmono
      have hlt : i + ((h, p, b) :: (q ++ sk_out (fun w => bk_w D w 0) (fun w => bk_w D w 1) (fun w => bk_w D w 2) (dk_lv D) h b e k)).length < 36 := by
        simp only [List.length_cons, List.length_append] at hlen ⊢; omega
      refine (ct_X12_goOver (by omega) hok hmu hk hh g3 he s2 s3 hlt s5 (by omega)).mono ?_
      rintro r v ⟨rfl, v1, v2, v3, v4⟩
      refine ⟨rfl, s_X12_layStroke_225 (by omega) v _ _ _ _ _ _ ?_⟩
      rw [nI_1]
      refine ih v ⟨(v1.mono (fun c j hj => by unfold mpf at hj; unfold scm; omega)).trans s1, ?_, ?_, fun z hz => ?_, ?_⟩
      · rw [n1, ← List.append_assoc]; exact v2
      · rw [n1, ← List.append_assoc]; exact v3
      · rw [v1.1 20 z (by unfold mpf; omega)]; exact s4 z hz
      · rw [n2, v4]; congr 1; omega
