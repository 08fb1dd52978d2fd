/-! ===== Storm.arrive, Storm.fall ===== -/
def sk_S (σ0 u : ax_S) (i : Nat) (q : List (Nat × Nat × Nat)) (bn : Nat → Bool) (kt : Nat → Nat) (ws : Nat) : Prop :=
  fo scr u σ0 ∧ sk_q u i q ∧ u.1 6 6 = nI (i + q.length) ∧ (∀ h, h < 32 → bt (u.1 6 7) h = bn h) ∧ (∀ h, h < 8 → u.1 32 h = nI (kt h)) ∧ u.1 6 8 = nI ws
def sk_cl (x : Int32) (p : Nat) : Int32 := if (0 : Int32) < (if x < nI p then x else nI p) then (if x < nI p then x else nI p) else 0
def sk_le (u : ax_S) (h p c : Nat) : ax_S := ax_ui (ax_ui (ax_ui (ax_ui (ax_ui (ax_ui u 21 0 (nI p)) 21 1 (u.1 24 h)) 21 2 (u.1 25 h)) 21 3 (u.1 26 h)) 21 4 (nI c)) 21 5 (u.1 5 13)
/-- what a house keeps, by the class's law or without -/
def sk_K (σ0 : ax_S) (n : Nat) (kp : Nat → Nat → Nat → Nat) : Prop :=
  (σ0.1 4 5 = -1 ∧ ∀ h p c, h < n → p ≤ 999 → 1 ≤ c → c ≤ 17 → sk_cl (nI (p / (c + 1)) + σ0.1 5 13) p = nI (kp h p c)) ∨
  (¬ σ0.1 4 5 = -1 ∧ ∀ u h p c, fo scr u σ0 → h < n → p ≤ 999 → 1 ≤ c → c ≤ 17 → ax_Ct shC 6 mX7_worth [ax_r 4] (fun r v => ∃ x, r = some (ax_i x) ∧ fo (fun c i => c = 22 ∨ (c = 4 ∧ i = 6)) v (sk_le u h p c) ∧ sk_cl x p = nI (kp h p c)) (sk_le u h p c))
theorem sk_q_fo {S : Nat → Nat → Prop} {u v : ax_S} {i : Nat} {q : List (Nat × Nat × Nat)} (h : sk_q u i q) (hf : fo S v u) (hS : ∀ c j, S c j → c ≠ 33 ∧ c ≠ 34 ∧ c ≠ 35) : sk_q v i q := by
  intro j x hx
  obtain ⟨h1, h2, h3⟩ := h j x hx
  exact ⟨by rw [hf.1 33 _ (fun z => (hS _ _ z).1 rfl)]; exact h1, by rw [hf.1 34 _ (fun z => (hS _ _ z).2.1 rfl)]; exact h2, by rw [hf.1 35 _ (fun z => (hS _ _ z).2.2 rfl)]; exact h3⟩
set_option maxHeartbeats 2000000 in
theorem ct_X8_arrive {d : Nat} (hd : 8 ≤ d) {σ0 : ax_S} {live : Int32} {n : Nat} {fr to sa : Nat → Nat} {lv : Nat → Bool} {be : Nat → Nat} {kp : Nat → Nat → Nat → Nat} (hok : sk_ok n fr to sa lv kp) (hC : sk_C σ0 live n fr to sa lv be) (hK : sk_K σ0 n kp)
    {v i h p b ws : Nat} {q : List (Nat × Nat × Nat)} {bn : Nat → Bool} {kt : Nat → Nat} {u : ax_S} (hv : v ≤ 999) (hiv : sk_iv n fr to lv v i ((h, p, b) :: q) bn kt ws) (hS : sk_S σ0 u i ((h, p, b) :: q) bn kt ws) {c e : Nat} (hc : c = if bn h then 0 else sk_cn fr to lv h b) (he : e = sk_ea kp h p c) :
    ax_Ct shC d mX8_arrive [ax_r 6, ax_i live, ax_i (nI h), ax_i (sk_by b), ax_i (nI p)] (fun r u' => r = none ∧ sk_S σ0 u' (i + 1) (q ++ (if c = 0 then [] else sk_out fr to sa lv h b e 17)) (fun k => if k = h then true else bn k) (fun k => if k = h then kt k + (p - e * c) else kt k) (ws + (if c = 0 then 0 else sk_ws fr to sa lv h b e 17))) u := by
  obtain ⟨d, rfl⟩ : ∃ e, d = e + 1 := ⟨d - 1, by omega⟩
  obtain ⟨hiv2, hec, hle⟩ := sk_step hok hiv hc he
  have hh : h < n := (hiv.1 (h, p, b) List.mem_cons_self).1
  have hb : b = 99 ∨ lv b = true := (hiv.1 (h, p, b) List.mem_cons_self).2.2
  have hn8 := hok.1
  have hlen := sk_iv_len hiv2
  obtain ⟨hf, hq, hsent, hvis, hkt, hws⟩ := hS
  have hq1 : sk_q u (i + 1) q := by
    intro j x hx
    have := hq (j + 1) x (by simpa using hx)
    rw [show i + 1 + j = i + (j + 1) by omega]; exact this
  have hsent1 : u.1 6 6 = nI (i + 1 + q.length) := by rw [hsent]; congr 1; simp only [List.length_cons]; omega
  refine ax_Ct.of (lv := [some (ax_r 6), some (ax_i live), some (ax_i (nI h)), some (ax_i (sk_by b)), some (ax_i (nI p)), none, none, none, none]) (by decide +kernel) (fun ad => Nat.le_of_ble_eq_true rfl) (fun ad => rfl) ?_
  have hkh : u.1 32 (Int32.toNatClampNeg (nI h)) = nI (kt h) := by rw [n_tn h]; exact hkt h (by omega)
  -- the world with one number added to what the house has kept
  have fin : ∀ (w : ax_S) (z : Nat), fo scr w σ0 → sk_q w (i + 1) q → w.1 6 6 = nI (i + 1 + q.length) → (∀ k, k < 32 → bt (w.1 6 7) k = if k = h then true else bn k) → (∀ k, k < 8 → w.1 32 k = nI (kt k)) → w.1 6 8 = nI ws →
      sk_S σ0 (ax_ui w 32 h (nI (kt h + z))) (i + 1) q (fun k => if k = h then true else bn k) (fun k => if k = h then kt k + z else kt k) ws := by
    intro w z w1 w2 w3 w4 w5 w6
    refine ⟨w1.ui (by unfold scr; omega), ?_, by rw [ui_cell (by decide)]; exact w3, ?_, ?_, by rw [ui_cell (by decide)]; exact w6⟩
    · intro j x hx
      have := w2 j x hx
      simpa [ui_any] using this
    · intro k hk
      rw [ui_cell (by decide)]; exact w4 k hk
    · intro k hk
      by_cases e1 : k = h
      · subst e1; rw [ui_same]; simp
      · rw [ui_idx e1]; simp only [e1, if_false]; exact w5 k hk
  cases hbn : bn h
  · -- it is the first one
    have hcc : c = sk_cn fr to lv h b := by rw [hc, hbn]; rfl
    have c1 : ¬ (((u.1 6 7) >>> ((nI h) &&& 31)) &&& (1 : Int32)) = 1 := fun z => by
      have := (pn_bitOf1 (u.1 6 7) h (by omega)).mp z
      rw [hvis h (by omega), hbn] at this; cases this
    have htch : u.1 31 (Int32.toNatClampNeg (nI h)) = σ0.1 31 h := by rw [n_tn h, hf.1 31 h (by unfold scr; omega)]
    -- from the wires onward on
    have rest : ∀ on : Int32, (∀ w, w < 32 → bt on w = sk_on fr to lv h b w) → ax_W shC (d + 1) mX8_arrive (fun r u' => r = none ∧ sk_S σ0 u' (i + 1) (q ++ (if c = 0 then [] else sk_out fr to sa lv h b e 17)) (fun k => if k = h then true else bn k) (fun k => if k = h then kt k + (p - e * c) else kt k) (ws + (if c = 0 then 0 else sk_ws fr to sa lv h b e 17))) 62 [some (ax_r 6), none, some (ax_i (nI h)), none, some (ax_i (nI p)), some (ax_i on), none, none, none] [] (ax_ui u 6 7 ((u.1 6 7) ||| ((1 : Int32) <<< ((nI h) &&& 31)))) := by
      intro on hon
      have hcnt : v_J6_bitCount_0f7a4 on = nI c := by
        rw [bc_mask (fun w h1 h2 => ?_)]
        · rw [hcc]
          congr 1
          exact fb_ct_cong (fun w hw => hon w (by omega))
        · rw [hon w h2]
          cases hl : lv w
          · simp [sk_on, hl]
          · have := (hok.2.1 w hl).1; omega
      have hc17 : c ≤ 17 := by rw [hcc]; exact fb_ct_le _ 17
      refine s_X8_arrive_62 (by omega) _ _ _ _ ?_
      rw [hcnt]
      -- the world with the house marked
      have g1 : fo scr (ax_ui u 6 7 ((u.1 6 7) ||| ((1 : Int32) <<< ((nI h) &&& 31)))) σ0 := hf.ui (by unfold scr; omega)
      have g2 : sk_q (ax_ui u 6 7 ((u.1 6 7) ||| ((1 : Int32) <<< ((nI h) &&& 31)))) (i + 1) q := by
        intro j x hx
        have := hq1 j x hx
        simpa [ui_any] using this
      have g3 : (ax_ui u 6 7 ((u.1 6 7) ||| ((1 : Int32) <<< ((nI h) &&& 31)))).1 6 6 = nI (i + 1 + q.length) := by simpa [ui_any] using hsent1
      have g4 : ∀ k, k < 32 → bt ((ax_ui u 6 7 ((u.1 6 7) ||| ((1 : Int32) <<< ((nI h) &&& 31)))).1 6 7) k = if k = h then true else bn k := by
        intro k hk
        rw [ui_same, b_or, hvis k hk, pn_one h (by omega) k hk]
        by_cases e1 : k = h
        · simp [e1]
        · simp [e1]
      have g5 : ∀ k, k < 8 → (ax_ui u 6 7 ((u.1 6 7) ||| ((1 : Int32) <<< ((nI h) &&& 31)))).1 32 k = nI (kt k) := by
        intro k hk; rw [ui_cell (by decide)]; exact hkt k hk
      have g6 : (ax_ui u 6 7 ((u.1 6 7) ||| ((1 : Int32) <<< ((nI h) &&& 31)))).1 6 8 = nI ws := by simpa [ui_any] using hws
      generalize ax_ui u 6 7 ((u.1 6 7) ||| ((1 : Int32) <<< ((nI h) &&& 31))) = w at g1 g2 g3 g4 g5 g6 ⊢
      have w32 : w.1 32 (Int32.toNatClampNeg (nI h)) = nI (kt h) := by rw [n_tn h]; exact g5 h (by omega)
      by_cases h0 : c = 0
      · have hz : nI c = 0 := by rw [h0]; rfl
        refine s_X8_arrive_69 (by omega) w _ _ _ _ (fun z => absurd hz z) (fun z => absurd hz z) (fun z => absurd hz z) (fun z => absurd hz z) (fun _ => n_in _ _) (fun _ => ⟨rfl, ?_⟩)
        rw [w32, n_tn h, nI_add]
        have := fin w p g1 g2 g3 g4 g5 g6
        simpa [h0] using this
      · have hnz : ¬ nI c = 0 := fun z => h0 ((n_eq c 0).mp z)
        have hp9 : p ≤ 999 := by omega
        -- behind what the house keeps of its own
        have pass : ∀ (x : Int32) (y : ax_S), fo scr y σ0 → sk_q y (i + 1) q → y.1 6 6 = nI (i + 1 + q.length) → (∀ k, k < 32 → bt (y.1 6 7) k = if k = h then true else bn k) → (∀ k, k < 8 → y.1 32 k = nI (kt k)) → y.1 6 8 = nI ws → sk_cl x p = nI (kp h p c) →
            ax_W shC (d + 1) mX8_arrive (fun r u' => r = none ∧ sk_S σ0 u' (i + 1) (q ++ (if c = 0 then [] else sk_out fr to sa lv h b e 17)) (fun k => if k = h then true else bn k) (fun k => if k = h then kt k + (p - e * c) else kt k) (ws + (if c = 0 then 0 else sk_ws fr to sa lv h b e 17))) 168 [some (ax_r 6), none, some (ax_i (nI h)), none, some (ax_i (nI p)), some (ax_i on), some (ax_i (nI c)), some (ax_i x), none] [] y := by
          intro x y y1 y2 y3 y4 y5 y6 hx
          have hkp := hok.2.2 h p c
          have heq : (nI p - sk_cl x p) / nI c = nI e := by
            rw [hx, n_sub p (kp h p c), n_div (p - kp h p c) c, he, sk_ea, if_neg h0]
          have he9 : e ≤ 999 := by
            have : e * 1 ≤ e * c := Nat.mul_le_mul_left e (by omega)
            omega
          refine s_X8_arrive_168 (by omega) y _ _ _ _ _ hnz (n_in _ _) ?_
          have y32 : y.1 32 (Int32.toNatClampNeg (nI h)) = nI (kt h) := by rw [n_tn h]; exact y5 h (by omega)
          show ax_Ct shC d mX8_pass [ax_r 6, ax_i (nI h), ax_i on, ax_i ((nI p - sk_cl x p) / nI c)] _ (ax_ui y 32 (Int32.toNatClampNeg (nI h)) (y.1 32 (Int32.toNatClampNeg (nI h)) + (nI p - (nI p - sk_cl x p) / nI c * nI c)))
          rw [y32, heq, n_mul e c, n_sub p (e * c), nI_add, n_tn h]
          have hS1 := fin y (p - e * c) y1 y2 y3 y4 y5 y6
          obtain ⟨s1, s2, s3, s4, s5, s6⟩ := hS1
          rw [if_neg h0] at hlen hiv2
          rw [if_neg h0] at hiv2
          have hcons := hiv2.2.1
          refine (ct_X8_pass (by omega) hok (hC.to s1) hon he9 hh (by omega) s2 s3 hlen s6).mono ?_
          rintro r z ⟨rfl, z1, z2, z3, z4⟩
          refine ⟨rfl, s_X8_arrive_213 (by omega) z ⟨rfl, ?_⟩⟩
          rw [if_neg h0, if_neg h0]
          refine ⟨(z1.mono (fun c j hj => by unfold sk_pf at hj; unfold scr; omega)).trans s1, z2, z3, fun k hk => ?_, fun k hk => ?_, z4⟩
          · rw [z1.1 6 7 (by unfold sk_pf; omega)]; exact s4 k hk
          · rw [z1.1 32 k (by unfold sk_pf; omega)]; exact s5 k hk
        rcases hK with ⟨k1, k2⟩ | ⟨k1, k2⟩
        · have w45 : w.1 4 5 = -1 := by rw [g1.1 4 5 (by unfold scr; omega)]; exact k1
          have w513 : w.1 5 13 = σ0.1 5 13 := g1.1 5 13 (by unfold scr; omega)
          refine s_X8_arrive_69 (by omega) w _ _ _ _ (fun _ => ?_) (fun _ _ => ?_) (fun _ z => absurd w45 z) (fun _ z => absurd w45 z) (fun z => absurd hnz z) (fun z => absurd hnz z)
          · rw [nI_1]; exact fun z => absurd ((n_eq (c + 1) 0).mp z) (by omega)
          · rw [nI_1, n_div p (c + 1), w513]
            exact pass _ w g1 g2 g3 g4 g5 g6 (k2 h p c hh hp9 (by omega) hc17)
        · have w45 : ¬ w.1 4 5 = -1 := by rw [g1.1 4 5 (by unfold scr; omega)]; exact k1
          refine s_X8_arrive_69 (by omega) w _ _ _ _ (fun _ => ?_) (fun _ z => absurd z w45) (fun _ _ => n_in _ _) (fun _ _ => ?_) (fun z => absurd hnz z) (fun z => absurd hnz z)
          · rw [nI_1]; exact fun z => absurd ((n_eq (c + 1) 0).mp z) (by omega)
          · rw [n_tn h]
            refine ((k2 w h p c g1 hh hp9 (by omega) hc17).le (by omega)).mono ?_
            rintro r y ⟨x, rfl, yf, hx⟩
            refine ⟨x, rfl, s_X8_arrive_166 (by omega) y _ _ _ _ _ ?_⟩
            have lf : fo (fun c _ => c = 21) (sk_le w h p c) w := by
              have z0 : fo (fun c _ => c = 21) w w := fo.rfl'
              unfold sk_le
              exact (((((z0.ui rfl).ui rfl).ui rfl).ui rfl).ui rfl).ui rfl
            have yw : fo (fun c i => c = 21 ∨ c = 22 ∨ (c = 4 ∧ i = 6)) y w := (yf.mono (fun c i hi => by omega)).trans (lf.mono (fun c i hi => by omega))
            refine pass x y ((yw.mono (fun c i hi => by unfold scr; omega)).trans g1) (sk_q_fo g2 yw (fun c j hj => by omega)) ?_ ?_ ?_ ?_ hx
            · rw [yw.1 6 6 (by omega)]; exact g3
            · intro k hk; rw [yw.1 6 7 (by omega)]; exact g4 k hk
            · intro k hk; rw [yw.1 32 k (by omega)]; exact g5 k hk
            · rw [yw.1 6 8 (by omega)]; exact g6
    have hbits : ∀ w, w < 32 → bt (live &&& (u.1 31 (Int32.toNatClampNeg (nI h)))) w = (lv w && (decide (fr w = h) || decide (to w = h))) := by
      intro w hw
      rw [b_and, hC.2.2.1 w hw, htch]
      cases hl : lv w
      · simp
      · rw [hC.2.2.2.2.1 h hh w hl]
    rcases hb with rfl | hb
    · have hby : sk_by 99 = -1 := rfl
      refine s_X8_arrive_0 (by omega) u _ _ _ _ (fun _ => n_in _ _) (fun _ _ => rest _ (fun w hw => ?_)) (fun _ z => absurd hby z) (fun z => absurd c1 z) (fun z => absurd c1 z)
      rw [hbits w hw, sk_on]
      have : ¬ w = 99 := by omega
      simp [this]
    · have hb17 := (hok.2.1 b hb).1
      have hby : sk_by b = nI b := by unfold sk_by; rw [if_neg (by omega)]
      have hne : ¬ sk_by b = -1 := by rw [hby]; exact n_m1 b
      refine s_X8_arrive_0 (by omega) u _ _ _ _ (fun _ => n_in _ _) (fun _ z => absurd z hne) (fun _ _ => rest _ (fun w hw => ?_)) (fun z => absurd c1 z) (fun z => absurd c1 z)
      rw [b_and, pn_not _ w hw, hby, pn_one b (by omega) w hw, hbits w hw, sk_on]
      cases lv w <;> cases decide (w = b) <;> simp
  · have h0 : c = 0 := by rw [hc, hbn]; rfl
    have c1 : (((u.1 6 7) >>> ((nI h) &&& 31)) &&& (1 : Int32)) = 1 := (pn_bitOf1 (u.1 6 7) h (by omega)).mpr (by rw [hvis h (by omega), hbn])
    refine s_X8_arrive_0 (by omega) u _ _ _ _ (fun z => absurd c1 z) (fun z => absurd c1 z) (fun z => absurd c1 z) (fun _ => n_in _ _) (fun _ => ⟨rfl, ?_⟩)
    rw [hkh, n_tn h, nI_add]
    have := fin u p hf hq1 hsent1 (fun k hk => by
      rw [hvis k hk]
      by_cases e1 : k = h
      · subst e1; simp [hbn]
      · simp [e1]) hkt hws
    simpa [h0] using this
