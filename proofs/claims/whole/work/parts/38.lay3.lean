theorem mS.tail {τ u : ax_S} {i : Nat} {x : Nat × Nat × Nat} {q : List (Nat × Nat × Nat)} {kt : Nat → Nat} {ws : Nat} (h : mS τ u i (x :: q) kt ws) : mS τ u (i + 1) q kt ws := by
  obtain ⟨h1, h2, h3, h4, h5⟩ := h
  refine ⟨h1, fun j y hy => ?_, ?_, h4, h5⟩
  · have := h2 (j + 1) y (by simpa using hy)
    rw [show i + 1 + j = i + (j + 1) by omega]; exact this
  · rw [h3]; congr 1; simp only [List.length_cons]; omega
/-- one number more kept -/
theorem mS.kept {τ u : ax_S} {i h z : Nat} {q : List (Nat × Nat × Nat)} {kt : Nat → Nat} {ws : Nat} (hS : mS τ u i q kt ws) : mS τ (ax_ui u 20 h (nI (kt h + z))) i q (fun k => if k = h then kt k + z else kt k) ws := by
  obtain ⟨h1, h2, h3, h4, h5⟩ := hS
  refine ⟨h1.ui (by unfold scm; omega), ?_, by rw [ui_cell (by decide)]; exact h3, fun k hk => ?_, by rw [ui_cell (by decide)]; exact h5⟩
  · intro j x hx
    have := h2 j x hx
    simpa [ui_any] using this
  · by_cases e : k = h
    · subst e; rw [ui_same]; simp
    · rw [ui_idx e]; simp only [e, if_false]; exact h4 k hk
set_option maxHeartbeats 2000000 in
theorem w_X12_lay43 {d : Nat} (hd : 9 ≤ d) {τ : ax_S} {n : Nat} {D : Nat → Nat} {kp : Nat → Nat → Nat → Nat} (hok : dk_ok n D kp) (hm : mD τ D) (hK : mk_K τ n kp) {v : Nat} (hv : v ≤ 999) {Q : Option ax_V → ax_S → Prop} :
    ∀ (f i : Nat) (q : List (Nat × Nat × Nat)) (bn : Nat → Bool) (kt : Nat → Nat) (ws : Nat) (u : ax_S) (x3 : Int32), 36 ≤ f + i → sk_iv n (fun w => bk_w D w 0) (fun w => bk_w D w 1) (dk_lv D) v i q bn kt ws → mS τ u i q kt ws → (∀ h, h < 32 → bt x3 h = bn h) →
      (∀ (K : Nat → Nat) (W : Nat) (u' : ax_S), sk_go (fun w => bk_w D w 0) (fun w => bk_w D w 1) (fun w => bk_w D w 2) (dk_lv D) kp f q bn kt ws = (K, W) → fo scm u' τ → (∀ h, h < 8 → u'.1 20 h = nI (K h)) → u'.1 0 35 = nI W → fb_sm K n + W = v → Q none u') →
      ax_W shM (d + 1) mX12_layStroke Q 43 [some (ax_r 0), none, none, some (ax_i x3), some (ax_i (nI i)), none, none, none, none, none, none] [] u := by
  have hsk := hok.sk
  have hn8 := hok.1
  have hM := hok.2.1
  intro f
  induction f with
  | zero =>
    intro i q bn kt ws u x3 hf hiv hS hx hQ
    have := sk_iv_len hiv
    omega
  | succ f ih =>
    intro i q bn kt ws u x3 hf hiv hS hx hQ
    have hlen := sk_iv_len hiv
    obtain ⟨s1, s2, s3, s4, s5⟩ := id hS
    cases q with
    | nil =>
      have hl : u.1 0 34 ≤ nI i := by rw [s3]; exact nI_le (by simp) (by omega)
      have hcons := hiv.2.1
      simp only [sk_qs, Nat.add_zero] at hcons
      exact s_X12_layStroke_43 (by omega) u _ _ (fun _ => hQ kt ws u rfl s1 s4 s5 hcons) (fun c => absurd hl c) (fun c => absurd hl c) (fun c => absurd hl c) (fun c => absurd hl c) (fun c => absurd hl c) (fun c => absurd hl c) (fun c => absurd hl c)
    | cons x q =>
      obtain ⟨h, p, b⟩ := x
      have hi35 : i < 35 := by simp only [List.length_cons] at hlen; omega
      have hl : ¬ u.1 0 34 ≤ nI i := by rw [s3]; exact nI_ge (by simp) (by simp only [List.length_cons] at hlen ⊢; omega)
      have hh : h < n := (hiv.1 (h, p, b) List.mem_cons_self).1
      have hb : b = 99 ∨ b < 17 := by
        rcases (hiv.1 (h, p, b) List.mem_cons_self).2.2 with h1 | h1
        · exact Or.inl h1
        · exact Or.inr (hsk.2.1 b h1).1
      obtain ⟨q1, q2, q3⟩ := s2 0 (h, p, b) rfl
      rw [Nat.add_zero] at q1 q2 q3
      have e17 : u.1 17 (Int32.toNatClampNeg (nI i)) = nI h := by rw [n_tn i]; exact q1
      have e18 : u.1 18 (Int32.toNatClampNeg (nI i)) = nI p := by rw [n_tn i]; exact q3
      have e19 : u.1 19 (Int32.toNatClampNeg (nI i)) = sk_by b := by rw [n_tn i]; exact q2
      have hx' : ∀ k, k < 32 → bt (x3 ||| ((1 : Int32) <<< ((nI h) &&& 31))) k = if k = h then true else bn k := by
        intro k hk
        rw [b_or, hx k hk, pn_one h (by omega) k hk]
        by_cases e1 : k = h
        · simp [e1]
        · simp [e1]
      have k20 : ∀ w : ax_S, (∀ h, h < 8 → w.1 20 h = nI (kt h)) → w.1 20 (Int32.toNatClampNeg (nI h)) = nI (kt h) := fun w hw => by rw [n_tn h]; exact hw h (by omega)
      -- the step of the numbers
      obtain ⟨c, hc⟩ : ∃ c, c = if bn h then 0 else sk_cn (fun w => bk_w D w 0) (fun w => bk_w D w 1) (dk_lv D) h b := ⟨_, rfl⟩
      obtain ⟨e, he⟩ : ∃ e, e = sk_ea kp h p c := ⟨_, rfl⟩
      obtain ⟨iv2, hec, hle⟩ := sk_step hsk hiv hc he
      have hlen2 := sk_iv_len iv2
      have hcons2 := iv2.2.1
      have hgo : ∀ K W, sk_go (fun w => bk_w D w 0) (fun w => bk_w D w 1) (fun w => bk_w D w 2) (dk_lv D) kp f (q ++ (if c = 0 then [] else sk_out (fun w => bk_w D w 0) (fun w => bk_w D w 1) (fun w => bk_w D w 2) (dk_lv D) h b e 17)) (fun k => if k = h then true else bn k) (fun k => if k = h then kt k + (p - e * c) else kt k) (ws + (if c = 0 then 0 else sk_ws (fun w => bk_w D w 0) (fun w => bk_w D w 1) (fun w => bk_w D w 2) (dk_lv D) h b e 17)) = (K, W) → sk_go (fun w => bk_w D w 0) (fun w => bk_w D w 1) (fun w => bk_w D w 2) (dk_lv D) kp (f + 1) ((h, p, b) :: q) bn kt ws = (K, W) := by
        intro K W hg
        rw [← hg, hc, he, hc]
        rfl
      -- nothing goes on
      have zero : c = 0 → ∀ (w : ax_S), mS τ w i ((h, p, b) :: q) kt ws → ax_W shM (d + 1) mX12_layStroke Q 166 [some (ax_r 0), none, none, some (ax_i (x3 ||| ((1 : Int32) <<< ((nI h) &&& 31)))), some (ax_i (nI i)), some (ax_i (nI h)), none, some (ax_i (0 : Int32)), none, some (ax_i (0 : Int32)), some (ax_i (0 : Int32))] [] (ax_ui w 20 h (nI (kt h + p))) := by
        intro h0 w hw
        have hS2 := (hw.kept (h := h) (z := p)).tail
        have hcont : ax_W shM (d + 1) mX12_layStroke Q 43 [some (ax_r 0), none, none, some (ax_i (x3 ||| ((1 : Int32) <<< ((nI h) &&& 31)))), some (ax_i (nI i + 1)), none, none, none, none, none, none] [] (ax_ui w 20 h (nI (kt h + p))) := by
          rw [nI_1]
          refine ih (i + 1) q (fun k => if k = h then true else bn k) (fun k => if k = h then kt k + p else kt k) ws _ _ (by omega) ?_ hS2 hx' (fun K W u' hg => hQ K W u' (hgo K W ?_))
          · simpa [h0] using iv2
          · rw [← hg]; simp [h0]
        by_cases hd0 : (ax_ui w 20 h (nI (kt h + p))).1 15 84 ≤ 0
        · exact s_X12_layStroke_166 (by omega) _ _ _ _ _ _ _ (fun _ => hcont) (fun c => absurd hd0 c) (fun c => absurd hd0 c) (fun c => absurd hd0 c) (fun c => absurd hd0 c) (fun c => absurd hd0 c) (fun c => absurd hd0 c) (fun c => absurd hd0 c) (fun c => absurd hd0 c) (fun c => absurd hd0 c) (fun c => absurd hd0 c)
        · have z0 : (0 : Int32) ≤ 0 := by decide
          exact s_X12_layStroke_166 (by omega) _ _ _ _ _ _ _ (fun c => absurd c hd0) (fun _ _ => hcont) (fun _ c => absurd z0 c) (fun _ c => absurd z0 c) (fun _ c => absurd z0 c) (fun _ c => absurd z0 c) (fun _ c => absurd z0 c) (fun _ c => absurd z0 c) (fun _ c => absurd z0 c) (fun _ c => absurd z0 c) (fun _ c => absurd z0 c)
      cases hbn : bn h
      · have c1 : ¬ ((x3 >>> ((nI h) &&& 31)) &&& (1 : Int32)) = 1 := fun z => by
          have := (pn_bitOf1 x3 h (by omega)).mp z
          rw [hx h (by omega), hbn] at this; cases this
        have hcc : c = sk_cn (fun w => bk_w D w 0) (fun w => bk_w D w 1) (dk_lv D) h b := by rw [hc, hbn]; rfl
        have hc17 : c ≤ 17 := by rw [hcc]; exact fb_ct_le _ 17
        refine s_X12_layStroke_43 (by omega) u _ _ (fun c => absurd c hl) (fun _ => n_in _ _) (fun _ _ => n_in _ _) (fun _ _ => ?_) (fun _ z => absurd (by rw [e17]; exact c1) z) (fun _ z => absurd (by rw [e17]; exact c1) z) (fun _ z => absurd (by rw [e17]; exact c1) z) (fun _ z => absurd (by rw [e17]; exact c1) z)
        rw [e17, e18, e19]
        refine (ct_X12_liveAt (by omega) hok (hm.to s1 scm15) hh hb).mono ?_
        rintro r w ⟨rfl, rfl⟩
        rw [← hcc]
        refine ⟨_, rfl, ?_⟩
        by_cases h0 : c = 0
        · have hz : nI c = 0 := by rw [h0]; rfl
          refine s_X12_layStroke_96 (by omega) _ _ _ _ _ _ (fun z => absurd hz z) (fun _ z => absurd hz z) (fun _ => n_in _ _) (fun _ => ?_)
          have hite : (if (¬ nI c = 0) then ((0 : Int32) / nI c) else 0) = 0 := if_neg (fun z => z hz)
          rw [hite, k20 _ s4, hz, show nI p - (0 : Int32) * 0 = nI p from by rw [show (0 : Int32) * 0 = nI 0 from rfl, n_sub p 0]; rfl, nI_add, n_tn h]
          exact zero h0 _ hS
        · have hnz : ¬ nI c = 0 := fun z => h0 ((n_eq c 0).mp z)
          refine s_X12_layStroke_96 (by omega) _ _ _ _ _ _ (fun _ => ?_) (fun z => absurd hnz z) (fun z => absurd hnz z) (fun z => absurd hnz z)
          refine ((hK _ h p c s1 hh (by omega) (by omega) hc17).le (by omega)).mono ?_
          rintro r w ⟨rfl, wf⟩
          have hkp := hok.2.2.2.2 h p c
          have hite : (if (¬ nI c = 0) then ((nI p - nI (kp h p c)) / nI c) else 0) = nI e := by
            rw [if_pos hnz, n_sub p (kp h p c), n_div (p - kp h p c) c, he, sk_ea, if_neg h0]
          have he9 : e ≤ 999 := by
            have : e * 1 ≤ e * c := Nat.mul_le_mul_left e (by omega)
            omega
          have hwS : mS τ w i ((h, p, b) :: q) kt ws := by
            refine ⟨(wf.mono (fun c j hj => by unfold scm; omega)).trans s1, mq_fo s2 wf (fun c j hj => by omega), ?_, fun k hk => ?_, ?_⟩
            · rw [wf.1 0 34 (by omega)]; exact s3
            · rw [wf.1 20 k (by omega)]; exact s4 k hk
            · rw [wf.1 0 35 (by omega)]; exact s5
          refine ⟨_, rfl, s_X12_layStroke_126 (by omega) w _ _ _ _ _ _ _ (fun z => z) (n_in _ _) ?_⟩
          rw [hite, k20 _ hwS.2.2.2.1, n_mul e c, n_sub p (e * c), nI_add, n_tn h]
          have hS3 := hwS.kept (h := h) (z := p - e * c)
          rw [if_neg h0] at hlen2
          rw [if_neg h0, if_neg h0] at hcons2
          refine w_X12_lay166 (by omega) hok hm (p := p) (b := b) (ws := ws) (q := q) (kt := fun k => if k = h then kt k + (p - e * c) else kt k) (by omega) hh hb (by omega) hc17 he9 ?_ (by omega) (fun y hy => ?_) 0 (Nat.zero_le _) _ ?_
          · simp only [List.length_cons] at hlen2 ⊢; omega
          · refine ih (i + 1) _ _ _ _ y _ (by omega) iv2 ?_ hx' (fun K W u' hg => hQ K W u' (hgo K W hg))
            rw [if_neg h0, if_neg h0]
            exact hy.tail
          · simpa [sk_out, sk_ws] using hS3
      · have h0 : c = 0 := by rw [hc, hbn]; rfl
        have c1 : ((x3 >>> ((nI h) &&& 31)) &&& (1 : Int32)) = 1 := (pn_bitOf1 x3 h (by omega)).mpr (by rw [hx h (by omega), hbn])
        have z0 : (0 : Int32) = 0 := rfl
        have c2 : ¬ (¬ ((x3 >>> ((u.1 17 (Int32.toNatClampNeg (nI i))) &&& 31)) &&& (1 : Int32)) = 1) := by rw [e17]; exact fun z => z c1
        refine s_X12_layStroke_43 (by omega) u _ _ (fun c => absurd c hl) (fun _ => n_in _ _) (fun _ z => absurd c2 z) (fun _ z => absurd c2 z) (fun _ _ z => absurd z0 z) (fun _ _ _ z => absurd z0 z) (fun _ _ _ => by rw [e17]; exact n_in _ _) (fun _ _ _ => ?_)
        have hite : (if (¬ (0 : Int32) = 0) then ((0 : Int32) / 0) else 0) = 0 := if_neg (fun z => z z0)
        rw [hite, e17, e18, k20 _ s4, show nI p - (0 : Int32) * 0 = nI p from by rw [show (0 : Int32) * 0 = nI 0 from rfl, n_sub p 0]; rfl, nI_add, n_tn h]
        exact zero h0 _ hS
