/-! ===== conditions whose first sum has been read ===== -/
def UB (T : List Nat) (n0 m : Nat) (r : List Nat) : Prop := ∃ R : rR, PR [false] [true] (8 * m + 2) 1 r R ∧ NC mX6_readsUnit [ax_r 3, ax_i (nI m), ax_i 1] (8 + 5 * (6 - m)) T r R ∧ NM mX12_compare (8 + 5 * (6 - m)) (8 * (6 - m) + 4) T n0 m r R
theorem nt_ub {T : List Nat} (hT : tkOk T) {n0 m : Nat} (hn0 : n0 ≤ 4) (hm : m ≤ 6) {r : List Nat} (hr : ∀ c ∈ r, c ≤ 255) : UB T n0 m r := by
  obtain ⟨R, p, c, k⟩ := nt_cmp hT hn0 hm hr
  refine ⟨R, p, fun d u code hd hu hl => ?_, fun d u cs hd hu hl => ?_⟩
  · obtain ⟨d, rfl⟩ : ∃ e, d = e + 1 := ⟨d - 1, by omega⟩
    refine ax_Ct.of (lv := [some (ax_r 3), some (ax_i (nI m)), some (ax_i 1), none]) (by decide +kernel) (fun ad => Nat.le_of_ble_eq_true rfl) (fun ad => rfl) ?_
    refine s_X6_readsUnit_0 (by omega) u _ _ (fun _ => ?_) (fun z => absurd (show ¬ (1 : Int32) = 0 by decide) z)
    exact c d u code _ (by omega) hu hl (fun y w hw => hw)
  · refine (k d u cs (by omega) hu hl).mono (fun y w hw => ?_)
    cases R with
    | inl n => exact ⟨hw.1, hw.2.1, hw.2.2.le (by omega)⟩
    | inr q => exact hw
def TrB (T : List Nat) (n0 m : Nat) (r : List Nat) : Prop := ∃ R : rR, PR [false] [true] (8 * m + 1) 1 r R ∧ NC mX6_readsTruth [ax_r 3, ax_i (nI m), ax_i 1] (9 + 5 * (6 - m)) T r R ∧
    (∀ d u cs (post : ax_S → Prop), 9 + 5 * (6 - m) ≤ d → mLs T n0 u r m cs → cs.length + r.length ≤ 240 → (∀ w, mQ T n0 u m cs (cs.length + r.length + (8 * (6 - m) + 5)) R none w → post w) → ax_Ct shM d mX12_compare [ax_r 0] (fun y v => y = none ∧ ax_Ct shM d mX12_goOnAnd [ax_r 0] (fun y w => y = none ∧ post w) v) u)
def CdB (T : List Nat) (n0 m : Nat) (r : List Nat) : Prop := ∃ R : rR, PR [false] [true] (8 * m) 1 r R ∧ NC mX6_readsCondition [ax_r 3, ax_i (nI m), ax_i 1] (11 + 5 * (6 - m)) T r R ∧
    (∀ d u cs (post : ax_S → Prop), 11 + 5 * (6 - m) ≤ d → mLs T n0 u r m cs → cs.length + r.length ≤ 240 → (∀ w, mQ T n0 u m cs (cs.length + r.length + (8 * (6 - m) + 6)) R none w → post w) → ax_Ct shM d mX12_compare [ax_r 0] (fun y v => y = none ∧ ax_Ct shM d mX12_goOnAnd [ax_r 0] (fun y v2 => y = none ∧ ax_Ct shM d mX12_goOnOr [ax_r 0] (fun y w => y = none ∧ post w) v2) v) u)
theorem nt_truthB {T : List Nat} (hT : tkOk T) {n0 m : Nat} (hn0 : n0 ≤ 4) (hm : m ≤ 6) {r : List Nat} (hr : ∀ c ∈ r, c ≤ 255) : TrB T n0 m r := by
  obtain ⟨R1, p1, c1, m1⟩ := nt_ub hT hn0 hm hr
  cases R1 with
  | inl n =>
    refine ⟨Sum.inl n, p1, fun d u code hd hu hl => ?_, fun d u cs post hd hu hl K => ?_⟩
    · obtain ⟨d, rfl⟩ : ∃ e, d = e + 1 := ⟨d - 1, by omega⟩
      refine ax_Ct.of (lv := [some (ax_r 3), some (ax_i (nI m)), some (ax_i 1), none]) (by decide +kernel) (fun ad => Nat.le_of_ble_eq_true rfl) (fun ad => rfl) ?_
      refine s_X6_readsTruth_0 (by omega) u _ _ ?_
      refine (c1 d u code (by omega) hu hl).mono ?_
      rintro y w ⟨w1, w2, w3⟩
      exact ⟨_, w2, s_X6_readsTruth_6 (by omega) w _ _ (fun z => absurd rfl z) (fun _ => ⟨w1, rfl, w3⟩)⟩
    · refine (m1 d u cs (by omega) hu hl).mono ?_
      rintro y w ⟨rfl, w1, w2⟩
      refine ⟨rfl, (ct_And_e (by omega) w2.2.1).mono ?_⟩
      rintro y v ⟨rfl, rfl⟩
      exact ⟨rfl, K v ⟨rfl, w1, w2.le (by omega)⟩⟩
  | inr q =>
    obtain ⟨q1, q2, q4, q3⟩ := p1
    obtain ⟨R2, p2, c2, m2⟩ := lp_and hT hn0 hm q.2.length q.2 (Nat.le_refl _) (fun c hc => hr c (q4 c hc)) (fun t ht htr => (cond_all hT hn0 t.length t (Nat.le_refl _) htr m hm).1)
    have cls : ∀ d u code (Q : Option ax_V → ax_S → Prop), 9 + 5 * (6 - m) ≤ d → cS T u r code → code.length + r.length ≤ 240 → (∀ y w v, fo lrS v u → cQ T v (code ++ lw_e q.1) R2 y w → Q y w) → ax_Ct shC d mX6_readsTruth [ax_r 3, ax_i (nI m), ax_i 1] Q u := by
      intro d u code Q hd hu hl K
      obtain ⟨d, rfl⟩ : ∃ e, d = e + 1 := ⟨d - 1, by omega⟩
      refine ax_Ct.of (lv := [some (ax_r 3), some (ax_i (nI m)), some (ax_i 1), none]) (by decide +kernel) (fun ad => Nat.le_of_ble_eq_true rfl) (fun ad => rfl) ?_
      refine s_X6_readsTruth_0 (by omega) u _ _ ?_
      refine (c1 d u code (by omega) hu hl).mono ?_
      rintro y w ⟨w1, w2, w3⟩
      refine ⟨_, w2, s_X6_readsTruth_6 (by omega) w _ _ (fun _ => ?_) (fun z => absurd (show ¬ (1 : Int32) = 0 by decide) z)⟩
      exact c2 d w _ 0 Q (by omega) w3 (by rw [List.length_append, lw_e_len]; omega) (by omega) (fun y x hx => K y x w w1 hx)
    have ref : ∀ d u cs (post : ax_S → Prop), 9 + 5 * (6 - m) ≤ d → mLs T n0 u r m cs → cs.length + r.length ≤ 240 → (∀ v w, fo (lmF n0) v u → mQ T n0 v m (cs ++ q.1) (cs.length + r.length + (8 * (6 - m) + 5)) R2 none w → post w) → ax_Ct shM d mX12_compare [ax_r 0] (fun y v => y = none ∧ ax_Ct shM d mX12_goOnAnd [ax_r 0] (fun y w => y = none ∧ post w) v) u := by
      intro d u cs post hd hu hl K
      refine (m1 d u cs (by omega) hu hl).mono ?_
      rintro y w ⟨rfl, w1, w2⟩
      have hlen : (cs ++ q.1).length = cs.length + q.1.length := List.length_append
      refine ⟨rfl, ?_⟩
      obtain ⟨d, rfl⟩ : ∃ e, d = e + 1 := ⟨d - 1, by omega⟩
      refine ax_Ct.of (lv := [some (ax_r 0)]) (by decide +kernel) (fun ad => Nat.le_of_ble_eq_true rfl) (fun ad => rfl) ?_
      refine m2 d w _ _ (by omega) w2 (by omega) (fun x hx => ⟨rfl, K w x w1 ?_⟩)
      cases R2 with
      | inl n => exact ⟨hx.1, hx.2.1, hx.2.2.le (by omega)⟩
      | inr q2 => exact hx
    cases R2 with
    | inl n =>
      refine ⟨Sum.inl n, by have : n ≤ q.2.length := p2
                            show n ≤ r.length; omega, fun d u code hd hu hl => ?_, fun d u cs post hd hu hl K => ?_⟩
      · exact cls d u code _ (by omega) hu hl (fun y w v hv hw => ⟨hw.1.trans hv, hw.2⟩)
      · exact ref d u cs _ (by omega) hu hl (fun v w hv hw => K w ⟨rfl, hw.2.1.trans hv, hw.2.2.le (by omega)⟩)
    | inr s =>
      obtain ⟨s1, s2, s4, s3⟩ := p2
      refine ⟨Sum.inr (q.1 ++ s.1, s.2), ⟨?_, ?_, fun c hc => q4 c (s4 c hc), fun k hk => ?_⟩, fun d u code hd hu hl => ?_, fun d u cs post hd hu hl K => ?_⟩
      · show (q.1 ++ s.1).length + s.2.length ≤ r.length
        rw [List.length_append]; omega
      · show s.2.length + 1 ≤ r.length; omega
      · exact le_ok_app (q3 k (by omega)) (s3 k (by omega))
      · refine cls d u code _ (by omega) hu hl (fun y w v hv hw => ⟨hw.1.trans hv, hw.2.1, ?_⟩)
        show cS T w s.2 (code ++ lw_e (q.1 ++ s.1))
        rw [lw_e_app, ← List.append_assoc]; exact hw.2.2
      · refine ref d u cs _ (by omega) hu hl (fun v w hv hw => K w ⟨rfl, hw.2.1.trans hv, ?_⟩)
        show mLs T n0 w s.2 m (cs ++ (q.1 ++ s.1))
        rw [← List.append_assoc]; exact hw.2.2
theorem nt_condB {T : List Nat} (hT : tkOk T) {n0 m : Nat} (hn0 : n0 ≤ 4) (hm : m ≤ 6) {r : List Nat} (hr : ∀ c ∈ r, c ≤ 255) : CdB T n0 m r := by
  obtain ⟨R1, p1, c1, m1⟩ := nt_truthB hT hn0 hm hr
  cases R1 with
  | inl n =>
    refine ⟨Sum.inl n, p1, fun d u code hd hu hl => ?_, fun d u cs post hd hu hl K => ?_⟩
    · obtain ⟨d, rfl⟩ : ∃ e, d = e + 1 := ⟨d - 1, by omega⟩
      refine ax_Ct.of (lv := [some (ax_r 3), some (ax_i (nI m)), some (ax_i 1), none]) (by decide +kernel) (fun ad => Nat.le_of_ble_eq_true rfl) (fun ad => rfl) ?_
      refine s_X6_readsCondition_0 (by omega) u _ _ ?_
      refine (c1 d u code (by omega) hu hl).mono ?_
      rintro y w ⟨w1, w2, w3⟩
      exact ⟨_, w2, s_X6_readsCondition_6 (by omega) w _ _ (fun z => absurd rfl z) (fun _ => ⟨w1, rfl, w3⟩)⟩
    · exact m1 d u cs _ (by omega) hu hl (fun w hw => (ct_Or_e (by omega) hw.2.2.2.1).mono (fun y v hv => ⟨hv.1, K v (by rw [hv.2]; exact ⟨rfl, hw.2.1, hw.2.2.le (by omega)⟩)⟩))
  | inr q =>
    obtain ⟨q1, q2, q4, q3⟩ := p1
    obtain ⟨R2, p2, c2, m2⟩ := lp_or hT hn0 hm q.2.length q.2 (Nat.le_refl _) (fun c hc => hr c (q4 c hc)) (fun t ht htr => nt_truth hT hn0 hm htr (fun s hs hsr => (cond_all hT hn0 s.length s (Nat.le_refl _) hsr m hm).1))
    have cls : ∀ d u code (Q : Option ax_V → ax_S → Prop), 10 + 5 * (6 - m) ≤ d → cS T u r code → code.length + r.length ≤ 240 → (∀ y w v, fo lrS v u → cQ T v (code ++ lw_e q.1) R2 y w → Q y w) → ax_Ct shC d mX6_readsCondition [ax_r 3, ax_i (nI m), ax_i 1] Q u := by
      intro d u code Q hd hu hl K
      obtain ⟨d, rfl⟩ : ∃ e, d = e + 1 := ⟨d - 1, by omega⟩
      refine ax_Ct.of (lv := [some (ax_r 3), some (ax_i (nI m)), some (ax_i 1), none]) (by decide +kernel) (fun ad => Nat.le_of_ble_eq_true rfl) (fun ad => rfl) ?_
      refine s_X6_readsCondition_0 (by omega) u _ _ ?_
      refine (c1 d u code (by omega) hu hl).mono ?_
      rintro y w ⟨w1, w2, w3⟩
      refine ⟨_, w2, s_X6_readsCondition_6 (by omega) w _ _ (fun _ => ?_) (fun z => absurd (show ¬ (1 : Int32) = 0 by decide) z)⟩
      exact c2 d w _ 0 Q (by omega) w3 (by rw [List.length_append, lw_e_len]; omega) (by omega) (fun y x hx => K y x w w1 hx)
    have ref : ∀ d u cs (post : ax_S → Prop), 11 + 5 * (6 - m) ≤ d → mLs T n0 u r m cs → cs.length + r.length ≤ 240 → (∀ v w, fo (lmF n0) v u → mQ T n0 v m (cs ++ q.1) (cs.length + r.length + (8 * (6 - m) + 6)) R2 none w → post w) → ax_Ct shM d mX12_compare [ax_r 0] (fun y v => y = none ∧ ax_Ct shM d mX12_goOnAnd [ax_r 0] (fun y v2 => y = none ∧ ax_Ct shM d mX12_goOnOr [ax_r 0] (fun y w => y = none ∧ post w) v2) v) u := by
      intro d u cs post hd hu hl K
      refine m1 d u cs _ (by omega) hu hl (fun w hw => ?_)
      obtain ⟨-, w1, w2⟩ := hw
      have hlen : (cs ++ q.1).length = cs.length + q.1.length := List.length_append
      obtain ⟨d, rfl⟩ : ∃ e, d = e + 1 := ⟨d - 1, by omega⟩
      refine ax_Ct.of (lv := [some (ax_r 0)]) (by decide +kernel) (fun ad => Nat.le_of_ble_eq_true rfl) (fun ad => rfl) ?_
      refine m2 d w _ _ (by omega) w2 (by omega) (fun x hx => ⟨rfl, K w x w1 ?_⟩)
      cases R2 with
      | inl n => exact ⟨hx.1, hx.2.1, hx.2.2.le (by omega)⟩
      | inr q2 => exact hx
    cases R2 with
    | inl n =>
      refine ⟨Sum.inl n, by have : n ≤ q.2.length := p2
                            show n ≤ r.length; omega, fun d u code hd hu hl => ?_, fun d u cs post hd hu hl K => ?_⟩
      · exact cls d u code _ (by omega) hu hl (fun y w v hv hw => ⟨hw.1.trans hv, hw.2⟩)
      · exact ref d u cs _ (by omega) hu hl (fun v w hv hw => K w ⟨rfl, hw.2.1.trans hv, hw.2.2.le (by omega)⟩)
    | inr s =>
      obtain ⟨s1, s2, s4, s3⟩ := p2
      refine ⟨Sum.inr (q.1 ++ s.1, s.2), ⟨?_, ?_, fun c hc => q4 c (s4 c hc), fun k hk => ?_⟩, fun d u code hd hu hl => ?_, fun d u cs post hd hu hl K => ?_⟩
      · show (q.1 ++ s.1).length + s.2.length ≤ r.length
        rw [List.length_append]; omega
      · show s.2.length + 1 ≤ r.length; omega
      · exact le_ok_app (q3 k (by omega)) (s3 k (by omega))
      · refine cls d u code _ (by omega) hu hl (fun y w v hv hw => ⟨hw.1.trans hv, hw.2.1, ?_⟩)
        show cS T w s.2 (code ++ lw_e (q.1 ++ s.1))
        rw [lw_e_app, ← List.append_assoc]; exact hw.2.2
      · refine ref d u cs _ (by omega) hu hl (fun v w hv hw => K w ⟨rfl, hw.2.1.trans hv, ?_⟩)
        show mLs T n0 w s.2 m (cs ++ (q.1 ++ s.1))
        rw [← List.append_assoc]; exact hw.2.2
