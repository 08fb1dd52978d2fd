/-! ===== conditions read ===== -/
def Um (T : List Nat) (n0 m : Nat) (r : List Nat) : Prop := NT mX6_readsUnit [ax_r 3, ax_i (nI m), ax_i 0] mX12_unit (8 + 5 * (6 - m)) (8 * (6 - m) + 4) [] [true] (8 * m + 2) T n0 m r
/-- a truth: in the reference a unit and goOnAnd behind it -/
def Trm (T : List Nat) (n0 m : Nat) (r : List Nat) : Prop := ∃ R : rR, PR [] [true] (8 * m + 1) 1 r R ∧ NC mX6_readsTruth [ax_r 3, ax_i (nI m), ax_i 0] (9 + 5 * (6 - m)) T r R ∧
    (∀ d u cs (post : ax_S → Prop), 9 + 5 * (6 - m) ≤ d → mLs T n0 u r m cs → cs.length + r.length ≤ 240 → (∀ w, mQ T n0 u m cs (cs.length + r.length + (8 * (6 - m) + 5)) R none w → post w) → ax_Ct shM d mX12_unit [ax_r 0] (fun y v => y = none ∧ ax_Ct shM d mX12_goOnAnd [ax_r 0] (fun y w => y = none ∧ post w) v) u)
def Cm (T : List Nat) (n0 m : Nat) (r : List Nat) : Prop := NT mX6_readsCondition [ax_r 3, ax_i (nI m), ax_i 0] mX12_condition (11 + 5 * (6 - m)) (8 * (6 - m) + 6) [] [true] (8 * m) T n0 m r
theorem sum_all {T : List Nat} (hT : tkOk T) {n0 : Nat} (hn0 : n0 ≤ 4) : ∀ (N : Nat) (r : List Nat), r.length ≤ N → (∀ c ∈ r, c ≤ 255) → ∀ m, m ≤ 6 → Sm T n0 m r := by
  intro N
  induction N with
  | zero =>
    intro r hN hr m hm
    exact nt_sum hT hn0 hm hr (fun t ht htr => nt_term hT hn0 hm htr (fun s hs hsr => nt_atom hT hn0 hm hsr (fun _ x hx => absurd hx (by omega))))
  | succ N ih =>
    intro r hN hr m hm
    exact nt_sum hT hn0 hm hr (fun t ht htr => nt_term hT hn0 hm htr (fun s hs hsr => nt_atom hT hn0 hm hsr (fun h6 x hx hxr => ih x (by omega) hxr (m + 1) (by omega))))
/-! ===== AND ===== -/
theorem lp_and {T : List Nat} (hT : tkOk T) {n0 m : Nat} (hn0 : n0 ≤ 4) (hm : m ≤ 6) : ∀ (N : Nat) (r : List Nat), r.length ≤ N → (∀ c ∈ r, c ≤ 255) → (∀ t, t.length < r.length → (∀ c ∈ t, c ≤ 255) → Um T n0 m t) → ∃ R : rR, PR [true] [true] (8 * m + 1) 0 r R ∧
    (∀ d u code i (Q : Option ax_V → ax_S → Prop), 8 + 5 * (6 - m) ≤ d → cS T u r code → code.length + r.length ≤ 240 → i + r.length ≤ 240 → (∀ y w, cQ T u code R y w → Q y w) → ax_W shC (d + 1) mX6_readsTruth Q 13 [some (ax_r 3), some (ax_i (nI m)), none, some (ax_i (nI i))] [] u) ∧
    (∀ d u cs (Q : Option ax_V → ax_S → Prop), 8 + 5 * (6 - m) ≤ d → mLs T n0 u r m cs → cs.length + r.length ≤ 240 → (∀ w, mQ T n0 u m cs (cs.length + r.length + (8 * (6 - m) + 5)) R none w → Q none w) → ax_W shM (d + 1) mX12_goOnAnd Q 0 [some (ax_r 0)] [] u) := by
  intro N
  induction N with
  | zero =>
    intro r hN hr IH
    have e : r = [] := List.eq_nil_of_length_eq_zero (by omega)
    subst e
    refine ⟨Sum.inr ([], []), ⟨Nat.le_refl _, Nat.le_refl _, fun c hc => hc, fun k _ => rfl⟩, ?_, ?_⟩
    · intro d u code i Q hd hu hl hi K
      have fin : ∀ w, fo lrS w u → cS T w [] code → Q (some (ax_i 1)) w := fun w f hw => K _ _ ⟨f, rfl, by show cS T w [] (code ++ []); rw [List.append_nil]; exact hw⟩
      refine s_X6_readsTruth_13 (by omega) u _ _ (fun _ => fin u fo.rfl' hu) (fun _ => ?_)
      refine (ct_X9_takes (by omega) hT hu.1 (x := 38) (by omega)).mono ?_
      rintro y w ⟨w1, ⟨t, w2, -, -⟩ | ⟨-, rfl, w3⟩⟩
      · cases w2
      · exact ⟨_, rfl, s_X6_readsTruth_29 (by omega) w _ _ _ (fun _ => fin w (nu_lr (at_nu w1)) (hu.mv (at_nu w1) w3)) (fun z => absurd rfl z)⟩
    · intro d u cs Q hd hu hl K
      refine s_X12_goOnAnd_0 (by omega) u (fun z => absurd hu.2.1 z) (fun _ => ?_)
      refine (ct_X12_look (by omega) hT hu.1).mono ?_
      rintro y w ⟨rfl, w1, w2⟩
      refine ⟨_, rfl, s_X12_goOnAnd_12 (by omega) w _ (fun _ => K w ⟨rfl, at_lm w1, by show mLs T n0 w [] m (cs ++ []); rw [List.append_nil]; exact hu.mv w1 w2⟩) (fun z => absurd (show ¬ (-1 : Int32) = 38 by decide) z)⟩
  | succ N ih =>
    intro r hN hr IH
    have hsl := sg_len r
    have hs := sg_le hr
    have k1 := hdI_eq (r := sg r) (x := 38) hs (by omega)
    by_cases a : ∃ t, sg r = 38 :: t
    · have e1 : hdI (sg r) = (38 : Int32) := k1.mpr a
      have a' := a
      obtain ⟨t, ht⟩ := a
      have htl : t.length + 1 ≤ r.length := by rw [ht] at hsl; exact hsl
      have hts : ∀ c ∈ t, c ≤ 255 := fun c hc => hs c (by rw [ht]; exact List.mem_cons_of_mem _ hc)
      obtain ⟨R1, p1, c1, m1⟩ := IH t (by omega) hts
      have cst : ∀ d u code i (Q : Option ax_V → ax_S → Prop), 8 + 5 * (6 - m) ≤ d → cS T u r code → code.length + r.length ≤ 240 → i + r.length ≤ 240 → (∀ y w, cQ T u code R1 y w → ∃ x : Int32, y = some (ax_i x) ∧ ax_W shC (d + 1) mX6_readsTruth Q 38 [some (ax_r 3), some (ax_i (nI m)), none, some (ax_i (nI i))] (ax_i x :: []) w) → ax_W shC (d + 1) mX6_readsTruth Q 13 [some (ax_r 3), some (ax_i (nI m)), none, some (ax_i (nI i))] [] u := by
        intro d u code i Q hd hu hl hi K
        refine s_X6_readsTruth_13 (by omega) u _ _ (fun z => absurd ((n_le 240 i).mp z) (by omega)) (fun _ => ?_)
        refine (ct_X9_takes (by omega) hT hu.1 (x := 38) (by omega)).mono ?_
        rintro y w ⟨w1, ⟨t2, w2, rfl, w3⟩ | ⟨w2, -, -⟩⟩
        · rw [ht] at w2
          have e2 : t = t2 := by cases w2; rfl
          rw [← e2] at w3
          refine ⟨_, rfl, s_X6_readsTruth_29 (by omega) w _ _ _ (fun z => absurd z (by decide)) (fun _ => ?_)⟩
          exact (c1 d w code (by omega) (hu.mv (at_nu w1) w3) (by omega)).mono (fun y v hv => K y v ⟨hv.1.trans (nu_lr (at_nu w1)), hv.2⟩)
        · exact absurd a' w2
      have mst : ∀ d u cs (Q : Option ax_V → ax_S → Prop), 8 + 5 * (6 - m) ≤ d → mLs T n0 u r m cs → cs.length + r.length ≤ 240 → (∀ w, mQ T n0 u m cs (cs.length + t.length + (8 * (6 - m) + 4)) R1 none w → ax_W shM (d + 1) mX12_goOnAnd Q 31 [some (ax_r 0)] [] w) → ax_W shM (d + 1) mX12_goOnAnd Q 0 [some (ax_r 0)] [] u := by
        intro d u cs Q hd hu hl K
        refine s_X12_goOnAnd_0 (by omega) u (fun z => absurd hu.2.1 z) (fun _ => ?_)
        refine (ct_X12_look (by omega) hT hu.1).mono ?_
        rintro y w ⟨rfl, w1, w2⟩
        have hw := hu.mv w1 w2
        rw [ht] at hw
        obtain ⟨n1, n2⟩ := hw.next hT
        refine ⟨_, rfl, s_X12_goOnAnd_12 (by omega) w _ (fun z => absurd e1 z) (fun _ => ?_)⟩
        exact (m1 d _ cs (by omega) n1 (by omega)).mono (fun y v hv => ⟨hv.1, K v ⟨rfl, hv.2.1.trans (n2.trans (at_lm w1)), hv.2.2⟩⟩)
      cases R1 with
      | inl n =>
        refine ⟨Sum.inl n, by have : n ≤ t.length := p1
                              show n ≤ r.length; omega, fun d u code i Q hd hu hl hi K => ?_, fun d u cs Q hd hu hl K => ?_⟩
        · refine cst d u code i Q hd hu hl hi (fun y w hw => ⟨_, hw.2.1, s_X6_readsTruth_38 (by omega) w _ _ _ (fun z => absurd rfl z) (fun _ => K _ _ ⟨hw.1, rfl, hw.2.2⟩)⟩)
        · refine mst d u cs Q hd hu hl (fun w hw => ?_)
          obtain ⟨-, f1, e1⟩ := hw
          obtain ⟨cs', hP, hcs⟩ := e1.2.2
          obtain ⟨i1, i2⟩ := put_in hP hn0 (by omega)
          have e2 := (e1.le (B' := cs.length + r.length + (8 * (6 - m) + 5)) (by omega)).put hP (by omega) 10 0
          refine s_X12_goOnAnd_31 (by omega) w i1 i2 ?_
          rw [put_eq hP hn0 (by omega)]
          exact s_X12_goOnAnd_0 (by omega) _ (fun _ => K _ ⟨rfl, (pu_fo _ _ _ _ _).trans f1, e2⟩) (fun z => absurd e2.2.1 z)
      | inr q =>
        obtain ⟨q1, q2, q4, q3⟩ := p1
        have hqs : ∀ c ∈ q.2, c ≤ 255 := fun c hc => hts c (q4 c hc)
        obtain ⟨R2, p2, c2, m2⟩ := ih q.2 (by omega) hqs (fun t' ht' => IH t' (by omega))
        have hput : ∀ d u code i (Q : Option ax_V → ax_S → Prop), 8 + 5 * (6 - m) ≤ d → cS T u r code → code.length + r.length ≤ 240 → i + r.length ≤ 240 → (∀ y w v, fo lrS v u → cQ T v (code ++ (lw_e q.1 ++ [10])) R2 y w → Q y w) → ax_W shC (d + 1) mX6_readsTruth Q 13 [some (ax_r 3), some (ax_i (nI m)), none, some (ax_i (nI i))] [] u := by
          intro d u code i Q hd hu hl hi K
          refine cst d u code i Q hd hu hl hi (fun y w hw => ⟨_, hw.2.1, s_X6_readsTruth_38 (by omega) w _ _ _ (fun _ => ?_) (fun z => absurd (show ¬ (1 : Int32) = 0 by decide) z)⟩)
          have hw2 := hw.2.2
          have hlen : (code ++ lw_e q.1).length = code.length + q.1.length := by rw [List.length_append, lw_e_len]
          refine (ct_X6_put (by omega) hw2 (by omega) (a := 10) (by omega) (v := 0) (by omega)).mono ?_
          rintro y v ⟨rfl, v1, v2⟩
          refine ⟨rfl, s_X6_readsTruth_50 (by omega) v _ _ ?_⟩
          rw [nI_1]
          have v2' : cS T v q.2 (code ++ (lw_e q.1 ++ [10])) := by rw [← List.append_assoc]; exact v2
          refine c2 d v _ (i + 1) Q hd v2' (by rw [List.length_append, List.length_append, lw_e_len]; show code.length + (q.1.length + 1) + q.2.length ≤ 240; omega) (by omega) (fun y x hx => K y x v (v1.trans hw.1) hx)
        have mput : ∀ d u cs (Q : Option ax_V → ax_S → Prop), 8 + 5 * (6 - m) ≤ d → mLs T n0 u r m cs → cs.length + r.length ≤ 240 → (∀ v w, fo (lmF n0) v u → mQ T n0 v m (cs ++ (q.1 ++ [(10, 0)])) (cs.length + r.length + (8 * (6 - m) + 5)) R2 none w → Q none w) → ax_W shM (d + 1) mX12_goOnAnd Q 0 [some (ax_r 0)] [] u := by
          intro d u cs Q hd hu hl K
          refine mst d u cs Q hd hu hl (fun w hw => ?_)
          obtain ⟨-, f1, e1⟩ := hw
          have hlen : (cs ++ q.1).length = cs.length + q.1.length := List.length_append
          obtain ⟨i1, i2⟩ := put_in e1.2.2.2 hn0 (by omega)
          have e2 := e1.put 10 0
          rw [List.append_assoc] at e2
          refine s_X12_goOnAnd_31 (by omega) w i1 i2 ?_
          rw [put_eq e1.2.2.2 hn0 (by omega)]
          have hlen2 : (cs ++ (q.1 ++ [(10, 0)])).length = cs.length + q.1.length + 1 := by rw [List.length_append, List.length_append]; rfl
          refine m2 d (pu w n0 (cs ++ q.1).length (nI 10) (nI 0)) _ Q hd e2 (by omega) (fun x hx => K (pu w n0 (cs ++ q.1).length (nI 10) (nI 0)) x ((pu_fo _ _ _ _ _).trans f1) ?_)
          cases R2 with
          | inl n => exact ⟨hx.1, hx.2.1, hx.2.2.le (by omega)⟩
          | inr q2 => exact hx
        cases R2 with
        | inl n =>
          refine ⟨Sum.inl n, by have : n ≤ q.2.length := p2
                                show n ≤ r.length; omega, fun d u code i Q hd hu hl hi K => ?_, fun d u cs Q hd hu hl K => ?_⟩
          · exact hput d u code i Q hd hu hl hi (fun y w v hv hw => K y w ⟨hw.1.trans hv, hw.2⟩)
          · exact mput d u cs Q hd hu hl (fun v w hv hw => K w ⟨rfl, hw.2.1.trans hv, hw.2.2⟩)
        | inr s =>
          obtain ⟨s1, s2, s4, s3⟩ := p2
          refine ⟨Sum.inr (q.1 ++ ([(10, 0)] ++ s.1), s.2), ⟨?_, ?_, fun c hc => sg_sub (by rw [ht]; exact List.mem_cons_of_mem _ (q4 c (s4 c hc))), fun k hk => ?_⟩, fun d u code i Q hd hu hl hi K => ?_, fun d u cs Q hd hu hl K => ?_⟩
          · show (q.1 ++ ([(10, 0)] ++ s.1)).length + s.2.length ≤ r.length
            rw [List.length_append, List.length_append]
            have : [(10, 0)].length = 1 := rfl
            omega
          · show s.2.length + 0 ≤ r.length; omega
          · refine le_ok_app (q3 (true :: k) (by rw [List.length_cons]; omega)) ?_
            exact Or.inr (Or.inr (Or.inr (Or.inr (Or.inr ⟨by show 10 ≤ 10; omega, by show 10 ≤ 11; omega, rfl, k, rfl, s3 k (by omega)⟩))))
          · refine hput d u code i Q hd hu hl hi (fun y w v hv hw => K y w ⟨hw.1.trans hv, hw.2.1, ?_⟩)
            show cS T w s.2 (code ++ lw_e (q.1 ++ ([(10, 0)] ++ s.1)))
            rw [lw_e_app, lw_e_app, ← List.append_assoc, ← List.append_assoc]
            have := hw.2.2
            rw [← List.append_assoc] at this; exact this
          · refine mput d u cs Q hd hu hl (fun v w hv hw => K w ⟨rfl, hw.2.1.trans hv, ?_⟩)
            show mLs T n0 w s.2 m (cs ++ (q.1 ++ ([(10, 0)] ++ s.1)))
            have := hw.2.2
            rw [← List.append_assoc q.1, ← List.append_assoc cs]; exact this
    · have n1 : ¬ hdI (sg r) = (38 : Int32) := fun z => a (k1.mp z)
      refine ⟨Sum.inr ([], sg r), ⟨by show 0 + (sg r).length ≤ r.length; omega, by show (sg r).length + 0 ≤ r.length; omega, fun c hc => sg_sub hc, fun k _ => rfl⟩, ?_, ?_⟩
      · intro d u code i Q hd hu hl hi K
        by_cases hi2 : i < 240
        · refine s_X6_readsTruth_13 (by omega) u _ _ (fun z => absurd ((n_le 240 i).mp z) (by omega)) (fun _ => ?_)
          refine (ct_X9_takes (by omega) hT hu.1 (x := 38) (by omega)).mono ?_
          rintro y w ⟨w1, ⟨t, w2, -, -⟩ | ⟨-, rfl, w3⟩⟩
          · exact absurd ⟨t, w2⟩ a
          · refine ⟨_, rfl, s_X6_readsTruth_29 (by omega) w _ _ _ (fun _ => K _ _ ⟨nu_lr (at_nu w1), rfl, ?_⟩) (fun z => absurd rfl z)⟩
            show cS T w (sg r) (code ++ []); rw [List.append_nil]; exact hu.mv (at_nu w1) w3
        · have e : r = [] := List.eq_nil_of_length_eq_zero (by omega)
          subst e
          refine s_X6_readsTruth_13 (by omega) u _ _ (fun _ => K _ _ ⟨fo.rfl', rfl, by show cS T u [] (code ++ []); rw [List.append_nil]; exact hu⟩) (fun z => absurd ((n_le 240 i).mpr (by omega)) z)
      · intro d u cs Q hd hu hl K
        refine s_X12_goOnAnd_0 (by omega) u (fun z => absurd hu.2.1 z) (fun _ => ?_)
        refine (ct_X12_look (by omega) hT hu.1).mono ?_
        rintro y w ⟨rfl, w1, w2⟩
        exact ⟨_, rfl, s_X12_goOnAnd_12 (by omega) w _ (fun _ => K w ⟨rfl, at_lm w1, by show mLs T n0 w (sg r) m (cs ++ []); rw [List.append_nil]; exact hu.mv w1 w2⟩) (fun z => absurd n1 z)⟩
/-! ===== a truth ===== -/
theorem ct_And_e {d : Nat} (hd : 1 ≤ d) {w : ax_S} (h : ¬ w.1 0 4 = -1) : ax_Ct shM d mX12_goOnAnd [ax_r 0] (fun y v => y = none ∧ v = w) w := by
  obtain ⟨d, rfl⟩ : ∃ e, d = e + 1 := ⟨d - 1, by omega⟩
  refine ax_Ct.of (lv := [some (ax_r 0)]) (by decide +kernel) (fun ad => Nat.le_of_ble_eq_true rfl) (fun ad => rfl) ?_
  exact s_X12_goOnAnd_0 (by omega) w (fun _ => ⟨rfl, rfl⟩) (fun z => absurd h z)
theorem ct_Or_e {d : Nat} (hd : 1 ≤ d) {w : ax_S} (h : ¬ w.1 0 4 = -1) : ax_Ct shM d mX12_goOnOr [ax_r 0] (fun y v => y = none ∧ v = w) w := by
  obtain ⟨d, rfl⟩ : ∃ e, d = e + 1 := ⟨d - 1, by omega⟩
  refine ax_Ct.of (lv := [some (ax_r 0)]) (by decide +kernel) (fun ad => Nat.le_of_ble_eq_true rfl) (fun ad => rfl) ?_
  exact s_X12_goOnOr_0 (by omega) w (fun _ => ⟨rfl, rfl⟩) (fun z => absurd h z)
theorem nt_truth {T : List Nat} (hT : tkOk T) {n0 m : Nat} (hn0 : n0 ≤ 4) (hm : m ≤ 6) {r : List Nat} (hr : ∀ c ∈ r, c ≤ 255) (IH : ∀ t, t.length ≤ r.length → (∀ c ∈ t, c ≤ 255) → Um T n0 m t) : Trm T n0 m r := by
  obtain ⟨R1, p1, c1, m1⟩ := IH r (Nat.le_refl _) hr
  cases R1 with
  | inl n =>
    refine ⟨Sum.inl n, p1, fun d u code hd hu hl => ?_, fun d u cs post hd hu hl K => ?_⟩
    · obtain ⟨d, rfl⟩ : ∃ e, d = e + 1 := ⟨d - 1, by omega⟩
      refine ax_Ct.of (lv := [some (ax_r 3), some (ax_i (nI m)), some (ax_i 0), none]) (by decide +kernel) (fun ad => Nat.le_of_ble_eq_true rfl) (fun ad => rfl) ?_
      refine s_X6_readsTruth_0 (by omega) u _ _ ?_
      refine (c1 d u code (by omega) hu hl).mono ?_
      rintro y w ⟨w1, w2, w3⟩
      exact ⟨_, w2, s_X6_readsTruth_6 (by omega) w _ _ (fun z => absurd rfl z) (fun _ => ⟨w1, rfl, w3⟩)⟩
    · refine (m1 d u cs (by omega) hu hl).mono ?_
      rintro y w ⟨rfl, w1, w2⟩
      refine ⟨rfl, (ct_And_e (by omega) w2.2.1).mono ?_⟩
      rintro y v ⟨rfl, rfl⟩
      exact ⟨rfl, K v ⟨rfl, w1, w2.le (by omega)⟩⟩
  | inr q =>
    obtain ⟨q1, q2, q4, q3⟩ := p1
    obtain ⟨R2, p2, c2, m2⟩ := lp_and hT hn0 hm q.2.length q.2 (Nat.le_refl _) (fun c hc => hr c (q4 c hc)) (fun t ht => IH t (by omega))
    have cls : ∀ d u code (Q : Option ax_V → ax_S → Prop), 9 + 5 * (6 - m) ≤ d → cS T u r code → code.length + r.length ≤ 240 → (∀ y w v, fo lrS v u → cQ T v (code ++ lw_e q.1) R2 y w → Q y w) → ax_Ct shC d mX6_readsTruth [ax_r 3, ax_i (nI m), ax_i 0] Q u := by
      intro d u code Q hd hu hl K
      obtain ⟨d, rfl⟩ : ∃ e, d = e + 1 := ⟨d - 1, by omega⟩
      refine ax_Ct.of (lv := [some (ax_r 3), some (ax_i (nI m)), some (ax_i 0), none]) (by decide +kernel) (fun ad => Nat.le_of_ble_eq_true rfl) (fun ad => rfl) ?_
      refine s_X6_readsTruth_0 (by omega) u _ _ ?_
      refine (c1 d u code (by omega) hu hl).mono ?_
      rintro y w ⟨w1, w2, w3⟩
      refine ⟨_, w2, s_X6_readsTruth_6 (by omega) w _ _ (fun _ => ?_) (fun z => absurd (show ¬ (1 : Int32) = 0 by decide) z)⟩
      exact c2 d w _ 0 Q (by omega) w3 (by rw [List.length_append, lw_e_len]; omega) (by omega) (fun y x hx => K y x w w1 hx)
    have ref : ∀ d u cs (post : ax_S → Prop), 9 + 5 * (6 - m) ≤ d → mLs T n0 u r m cs → cs.length + r.length ≤ 240 → (∀ v w, fo (lmF n0) v u → mQ T n0 v m (cs ++ q.1) (cs.length + r.length + (8 * (6 - m) + 5)) R2 none w → post w) → ax_Ct shM d mX12_unit [ax_r 0] (fun y v => y = none ∧ ax_Ct shM d mX12_goOnAnd [ax_r 0] (fun y w => y = none ∧ post w) v) u := by
      intro d u cs post hd hu hl K
      refine (m1 d u cs (by omega) hu hl).mono ?_
      rintro y w ⟨rfl, w1, w2⟩
      have hlen : (cs ++ q.1).length = cs.length + q.1.length := List.length_append
      refine ⟨rfl, ?_⟩
      obtain ⟨d, rfl⟩ : ∃ e, d = e + 1 := ⟨d - 1, by omega⟩
      refine ax_Ct.of (lv := [some (ax_r 0)]) (by decide +kernel) (fun ad => Nat.le_of_ble_eq_true rfl) (fun ad => rfl) ?_
      refine m2 d w _ _ (by omega) w2 (by omega) (fun x hx => ⟨rfl, K w x w1 ?_⟩)
      cases R2 with
      | inl n => exact ⟨hx.1, hx.2.1, hx.2.2.le (by omega)⟩
      | inr q2 => exact hx
    cases R2 with
    | inl n =>
      refine ⟨Sum.inl n, by have : n ≤ q.2.length := p2
                            show n ≤ r.length; omega, fun d u code hd hu hl => ?_, fun d u cs post hd hu hl K => ?_⟩
      · exact cls d u code _ (by omega) hu hl (fun y w v hv hw => ⟨hw.1.trans hv, hw.2⟩)
      · exact ref d u cs _ (by omega) hu hl (fun v w hv hw => K w ⟨rfl, hw.2.1.trans hv, hw.2.2.le (by omega)⟩)
    | inr s =>
      obtain ⟨s1, s2, s4, s3⟩ := p2
      refine ⟨Sum.inr (q.1 ++ s.1, s.2), ⟨?_, ?_, fun c hc => q4 c (s4 c hc), fun k hk => ?_⟩, fun d u code hd hu hl => ?_, fun d u cs post hd hu hl K => ?_⟩
      · show (q.1 ++ s.1).length + s.2.length ≤ r.length
        rw [List.length_append]; omega
      · show s.2.length + 1 ≤ r.length; omega
      · exact le_ok_app (q3 k (by omega)) (s3 k (by omega))
      · refine cls d u code _ (by omega) hu hl (fun y w v hv hw => ⟨hw.1.trans hv, hw.2.1, ?_⟩)
        show cS T w s.2 (code ++ lw_e (q.1 ++ s.1))
        rw [lw_e_app, ← List.append_assoc]; exact hw.2.2
      · refine ref d u cs _ (by omega) hu hl (fun v w hv hw => K w ⟨rfl, hw.2.1.trans hv, ?_⟩)
        show mLs T n0 w s.2 m (cs ++ (q.1 ++ s.1))
        rw [← List.append_assoc]; exact hw.2.2
/-! ===== OR ===== -/
theorem lp_or {T : List Nat} (hT : tkOk T) {n0 m : Nat} (hn0 : n0 ≤ 4) (hm : m ≤ 6) : ∀ (N : Nat) (r : List Nat), r.length ≤ N → (∀ c ∈ r, c ≤ 255) → (∀ t, t.length < r.length → (∀ c ∈ t, c ≤ 255) → Trm T n0 m t) → ∃ R : rR, PR [true] [true] (8 * m + 0) 0 r R ∧
    (∀ d u code i (Q : Option ax_V → ax_S → Prop), 9 + 5 * (6 - m) ≤ d → cS T u r code → code.length + r.length ≤ 240 → i + r.length ≤ 240 → (∀ y w, cQ T u code R y w → Q y w) → ax_W shC (d + 1) mX6_readsCondition Q 13 [some (ax_r 3), some (ax_i (nI m)), none, some (ax_i (nI i))] [] u) ∧
    (∀ d u cs (Q : Option ax_V → ax_S → Prop), 9 + 5 * (6 - m) ≤ d → mLs T n0 u r m cs → cs.length + r.length ≤ 240 → (∀ w, mQ T n0 u m cs (cs.length + r.length + (8 * (6 - m) + 6)) R none w → Q none w) → ax_W shM (d + 1) mX12_goOnOr Q 0 [some (ax_r 0)] [] u) := by
  intro N
  induction N with
  | zero =>
    intro r hN hr IH
    have e : r = [] := List.eq_nil_of_length_eq_zero (by omega)
    subst e
    refine ⟨Sum.inr ([], []), ⟨Nat.le_refl _, Nat.le_refl _, fun c hc => hc, fun k _ => rfl⟩, ?_, ?_⟩
    · intro d u code i Q hd hu hl hi K
      have fin : ∀ w, fo lrS w u → cS T w [] code → Q (some (ax_i 1)) w := fun w f hw => K _ _ ⟨f, rfl, by show cS T w [] (code ++ []); rw [List.append_nil]; exact hw⟩
      refine s_X6_readsCondition_13 (by omega) u _ _ (fun _ => fin u fo.rfl' hu) (fun _ => ?_)
      refine (ct_X9_takes (by omega) hT hu.1 (x := 124) (by omega)).mono ?_
      rintro y w ⟨w1, ⟨t, w2, -, -⟩ | ⟨-, rfl, w3⟩⟩
      · cases w2
      · exact ⟨_, rfl, s_X6_readsCondition_29 (by omega) w _ _ _ (fun _ => fin w (nu_lr (at_nu w1)) (hu.mv (at_nu w1) w3)) (fun z => absurd rfl z)⟩
    · intro d u cs Q hd hu hl K
      refine s_X12_goOnOr_0 (by omega) u (fun z => absurd hu.2.1 z) (fun _ => ?_)
      refine (ct_X12_look (by omega) hT hu.1).mono ?_
      rintro y w ⟨rfl, w1, w2⟩
      refine ⟨_, rfl, s_X12_goOnOr_12 (by omega) w _ (fun _ => K w ⟨rfl, at_lm w1, by show mLs T n0 w [] m (cs ++ []); rw [List.append_nil]; exact hu.mv w1 w2⟩) (fun z => absurd (show ¬ (-1 : Int32) = 124 by decide) z)⟩
  | succ N ih =>
    intro r hN hr IH
    have hsl := sg_len r
    have hs := sg_le hr
    have k1 := hdI_eq (r := sg r) (x := 124) hs (by omega)
    by_cases a : ∃ t, sg r = 124 :: t
    · have e1 : hdI (sg r) = (124 : Int32) := k1.mpr a
      have a' := a
      obtain ⟨t, ht⟩ := a
      have htl : t.length + 1 ≤ r.length := by rw [ht] at hsl; exact hsl
      have hts : ∀ c ∈ t, c ≤ 255 := fun c hc => hs c (by rw [ht]; exact List.mem_cons_of_mem _ hc)
      obtain ⟨R1, p1, c1, m1⟩ := IH t (by omega) hts
      have cst : ∀ d u code i (Q : Option ax_V → ax_S → Prop), 9 + 5 * (6 - m) ≤ d → cS T u r code → code.length + r.length ≤ 240 → i + r.length ≤ 240 → (∀ y w, cQ T u code R1 y w → ∃ x : Int32, y = some (ax_i x) ∧ ax_W shC (d + 1) mX6_readsCondition Q 38 [some (ax_r 3), some (ax_i (nI m)), none, some (ax_i (nI i))] (ax_i x :: []) w) → ax_W shC (d + 1) mX6_readsCondition Q 13 [some (ax_r 3), some (ax_i (nI m)), none, some (ax_i (nI i))] [] u := by
        intro d u code i Q hd hu hl hi K
        refine s_X6_readsCondition_13 (by omega) u _ _ (fun z => absurd ((n_le 240 i).mp z) (by omega)) (fun _ => ?_)
        refine (ct_X9_takes (by omega) hT hu.1 (x := 124) (by omega)).mono ?_
        rintro y w ⟨w1, ⟨t2, w2, rfl, w3⟩ | ⟨w2, -, -⟩⟩
        · rw [ht] at w2
          have e2 : t = t2 := by cases w2; rfl
          rw [← e2] at w3
          refine ⟨_, rfl, s_X6_readsCondition_29 (by omega) w _ _ _ (fun z => absurd z (by decide)) (fun _ => ?_)⟩
          exact (c1 d w code (by omega) (hu.mv (at_nu w1) w3) (by omega)).mono (fun y v hv => K y v ⟨hv.1.trans (nu_lr (at_nu w1)), hv.2⟩)
        · exact absurd a' w2
      have mst : ∀ d u cs (Q : Option ax_V → ax_S → Prop), 9 + 5 * (6 - m) ≤ d → mLs T n0 u r m cs → cs.length + r.length ≤ 240 → (∀ w, mQ T n0 u m cs (cs.length + t.length + (8 * (6 - m) + 5)) R1 none w → ax_W shM (d + 1) mX12_goOnOr Q 35 [some (ax_r 0)] [] w) → ax_W shM (d + 1) mX12_goOnOr Q 0 [some (ax_r 0)] [] u := by
        intro d u cs Q hd hu hl K
        refine s_X12_goOnOr_0 (by omega) u (fun z => absurd hu.2.1 z) (fun _ => ?_)
        refine (ct_X12_look (by omega) hT hu.1).mono ?_
        rintro y w ⟨rfl, w1, w2⟩
        have hw := hu.mv w1 w2
        rw [ht] at hw
        obtain ⟨n1, n2⟩ := hw.next hT
        refine ⟨_, rfl, s_X12_goOnOr_12 (by omega) w _ (fun z => absurd e1 z) (fun _ => ?_)⟩
        exact (m1 d _ cs (fun v => ax_W shM (d + 1) mX12_goOnOr Q 35 [some (ax_r 0)] [] v) (by omega) n1 (by omega) (fun v hv => K v ⟨rfl, hv.2.1.trans (n2.trans (at_lm w1)), hv.2.2⟩)).mono (fun y v hv => ⟨hv.1, s_X12_goOnOr_31 (by omega) v hv.2⟩)
      cases R1 with
      | inl n =>
        refine ⟨Sum.inl n, by have : n ≤ t.length := p1
                              show n ≤ r.length; omega, fun d u code i Q hd hu hl hi K => ?_, fun d u cs Q hd hu hl K => ?_⟩
        · refine cst d u code i Q hd hu hl hi (fun y w hw => ⟨_, hw.2.1, s_X6_readsCondition_38 (by omega) w _ _ _ (fun z => absurd rfl z) (fun _ => K _ _ ⟨hw.1, rfl, hw.2.2⟩)⟩)
        · refine mst d u cs Q hd hu hl (fun w hw => ?_)
          obtain ⟨-, f1, e1⟩ := hw
          obtain ⟨cs', hP, hcs⟩ := e1.2.2
          obtain ⟨i1, i2⟩ := put_in hP hn0 (by omega)
          have e2 := (e1.le (B' := cs.length + r.length + (8 * (6 - m) + 6)) (by omega)).put hP (by omega) 11 0
          refine s_X12_goOnOr_35 (by omega) w i1 i2 ?_
          rw [put_eq hP hn0 (by omega)]
          exact s_X12_goOnOr_0 (by omega) _ (fun _ => K _ ⟨rfl, (pu_fo _ _ _ _ _).trans f1, e2⟩) (fun z => absurd e2.2.1 z)
      | inr q =>
        obtain ⟨q1, q2, q4, q3⟩ := p1
        have hqs : ∀ c ∈ q.2, c ≤ 255 := fun c hc => hts c (q4 c hc)
        obtain ⟨R2, p2, c2, m2⟩ := ih q.2 (by omega) hqs (fun t' ht' => IH t' (by omega))
        have hput : ∀ d u code i (Q : Option ax_V → ax_S → Prop), 9 + 5 * (6 - m) ≤ d → cS T u r code → code.length + r.length ≤ 240 → i + r.length ≤ 240 → (∀ y w v, fo lrS v u → cQ T v (code ++ (lw_e q.1 ++ [11])) R2 y w → Q y w) → ax_W shC (d + 1) mX6_readsCondition Q 13 [some (ax_r 3), some (ax_i (nI m)), none, some (ax_i (nI i))] [] u := by
          intro d u code i Q hd hu hl hi K
          refine cst d u code i Q hd hu hl hi (fun y w hw => ⟨_, hw.2.1, s_X6_readsCondition_38 (by omega) w _ _ _ (fun _ => ?_) (fun z => absurd (show ¬ (1 : Int32) = 0 by decide) z)⟩)
          have hw2 := hw.2.2
          have hlen : (code ++ lw_e q.1).length = code.length + q.1.length := by rw [List.length_append, lw_e_len]
          refine (ct_X6_put (by omega) hw2 (by omega) (a := 11) (by omega) (v := 0) (by omega)).mono ?_
          rintro y v ⟨rfl, v1, v2⟩
          refine ⟨rfl, s_X6_readsCondition_50 (by omega) v _ _ ?_⟩
          rw [nI_1]
          have v2' : cS T v q.2 (code ++ (lw_e q.1 ++ [11])) := by rw [← List.append_assoc]; exact v2
          refine c2 d v _ (i + 1) Q hd v2' (by rw [List.length_append, List.length_append, lw_e_len]; show code.length + (q.1.length + 1) + q.2.length ≤ 240; omega) (by omega) (fun y x hx => K y x v (v1.trans hw.1) hx)
        have mput : ∀ d u cs (Q : Option ax_V → ax_S → Prop), 9 + 5 * (6 - m) ≤ d → mLs T n0 u r m cs → cs.length + r.length ≤ 240 → (∀ v w, fo (lmF n0) v u → mQ T n0 v m (cs ++ (q.1 ++ [(11, 0)])) (cs.length + r.length + (8 * (6 - m) + 6)) R2 none w → Q none w) → ax_W shM (d + 1) mX12_goOnOr Q 0 [some (ax_r 0)] [] u := by
          intro d u cs Q hd hu hl K
          refine mst d u cs Q hd hu hl (fun w hw => ?_)
          obtain ⟨-, f1, e1⟩ := hw
          have hlen : (cs ++ q.1).length = cs.length + q.1.length := List.length_append
          obtain ⟨i1, i2⟩ := put_in e1.2.2.2 hn0 (by omega)
          have e2 := e1.put 11 0
          rw [List.append_assoc] at e2
          refine s_X12_goOnOr_35 (by omega) w i1 i2 ?_
          rw [put_eq e1.2.2.2 hn0 (by omega)]
          have hlen2 : (cs ++ (q.1 ++ [(11, 0)])).length = cs.length + q.1.length + 1 := by rw [List.length_append, List.length_append]; rfl
          refine m2 d (pu w n0 (cs ++ q.1).length (nI 11) (nI 0)) _ Q hd e2 (by omega) (fun x hx => K (pu w n0 (cs ++ q.1).length (nI 11) (nI 0)) x ((pu_fo _ _ _ _ _).trans f1) ?_)
          cases R2 with
          | inl n => exact ⟨hx.1, hx.2.1, hx.2.2.le (by omega)⟩
          | inr q2 => exact hx
        cases R2 with
        | inl n =>
          refine ⟨Sum.inl n, by have : n ≤ q.2.length := p2
                                show n ≤ r.length; omega, fun d u code i Q hd hu hl hi K => ?_, fun d u cs Q hd hu hl K => ?_⟩
          · exact hput d u code i Q hd hu hl hi (fun y w v hv hw => K y w ⟨hw.1.trans hv, hw.2⟩)
          · exact mput d u cs Q hd hu hl (fun v w hv hw => K w ⟨rfl, hw.2.1.trans hv, hw.2.2⟩)
        | inr s =>
          obtain ⟨s1, s2, s4, s3⟩ := p2
          refine ⟨Sum.inr (q.1 ++ ([(11, 0)] ++ s.1), s.2), ⟨?_, ?_, fun c hc => sg_sub (by rw [ht]; exact List.mem_cons_of_mem _ (q4 c (s4 c hc))), fun k hk => ?_⟩, fun d u code i Q hd hu hl hi K => ?_, fun d u cs Q hd hu hl K => ?_⟩
          · show (q.1 ++ ([(11, 0)] ++ s.1)).length + s.2.length ≤ r.length
            rw [List.length_append, List.length_append]
            have : [(11, 0)].length = 1 := rfl
            omega
          · show s.2.length + 0 ≤ r.length; omega
          · refine le_ok_app (q3 (true :: k) (by rw [List.length_cons]; omega)) ?_
            exact Or.inr (Or.inr (Or.inr (Or.inr (Or.inr ⟨by show 10 ≤ 11; omega, by show 11 ≤ 11; omega, rfl, k, rfl, s3 k (by omega)⟩))))
          · refine hput d u code i Q hd hu hl hi (fun y w v hv hw => K y w ⟨hw.1.trans hv, hw.2.1, ?_⟩)
            show cS T w s.2 (code ++ lw_e (q.1 ++ ([(11, 0)] ++ s.1)))
            rw [lw_e_app, lw_e_app, ← List.append_assoc, ← List.append_assoc]
            have := hw.2.2
            rw [← List.append_assoc] at this; exact this
          · refine mput d u cs Q hd hu hl (fun v w hv hw => K w ⟨rfl, hw.2.1.trans hv, ?_⟩)
            show mLs T n0 w s.2 m (cs ++ (q.1 ++ ([(11, 0)] ++ s.1)))
            have := hw.2.2
            rw [← List.append_assoc q.1, ← List.append_assoc cs]; exact this
    · have n1 : ¬ hdI (sg r) = (124 : Int32) := fun z => a (k1.mp z)
      refine ⟨Sum.inr ([], sg r), ⟨by show 0 + (sg r).length ≤ r.length; omega, by show (sg r).length + 0 ≤ r.length; omega, fun c hc => sg_sub hc, fun k _ => rfl⟩, ?_, ?_⟩
      · intro d u code i Q hd hu hl hi K
        by_cases hi2 : i < 240
        · refine s_X6_readsCondition_13 (by omega) u _ _ (fun z => absurd ((n_le 240 i).mp z) (by omega)) (fun _ => ?_)
          refine (ct_X9_takes (by omega) hT hu.1 (x := 124) (by omega)).mono ?_
          rintro y w ⟨w1, ⟨t, w2, -, -⟩ | ⟨-, rfl, w3⟩⟩
          · exact absurd ⟨t, w2⟩ a
          · refine ⟨_, rfl, s_X6_readsCondition_29 (by omega) w _ _ _ (fun _ => K _ _ ⟨nu_lr (at_nu w1), rfl, ?_⟩) (fun z => absurd rfl z)⟩
            show cS T w (sg r) (code ++ []); rw [List.append_nil]; exact hu.mv (at_nu w1) w3
        · have e : r = [] := List.eq_nil_of_length_eq_zero (by omega)
          subst e
          refine s_X6_readsCondition_13 (by omega) u _ _ (fun _ => K _ _ ⟨fo.rfl', rfl, by show cS T u [] (code ++ []); rw [List.append_nil]; exact hu⟩) (fun z => absurd ((n_le 240 i).mpr (by omega)) z)
      · intro d u cs Q hd hu hl K
        refine s_X12_goOnOr_0 (by omega) u (fun z => absurd hu.2.1 z) (fun _ => ?_)
        refine (ct_X12_look (by omega) hT hu.1).mono ?_
        rintro y w ⟨rfl, w1, w2⟩
        exact ⟨_, rfl, s_X12_goOnOr_12 (by omega) w _ (fun _ => K w ⟨rfl, at_lm w1, by show mLs T n0 w (sg r) m (cs ++ []); rw [List.append_nil]; exact hu.mv w1 w2⟩) (fun z => absurd n1 z)⟩
/-! ===== a condition ===== -/
theorem nt_cond {T : List Nat} (hT : tkOk T) {n0 m : Nat} (hn0 : n0 ≤ 4) (hm : m ≤ 6) {r : List Nat} (hr : ∀ c ∈ r, c ≤ 255) (IH : ∀ t, t.length ≤ r.length → (∀ c ∈ t, c ≤ 255) → Trm T n0 m t) : Cm T n0 m r := by
  obtain ⟨R1, p1, c1, m1⟩ := IH r (Nat.le_refl _) hr
  cases R1 with
  | inl n =>
    refine ⟨Sum.inl n, p1, fun d u code hd hu hl => ?_, fun d u cs hd hu hl => ?_⟩
    · obtain ⟨d, rfl⟩ : ∃ e, d = e + 1 := ⟨d - 1, by omega⟩
      refine ax_Ct.of (lv := [some (ax_r 3), some (ax_i (nI m)), some (ax_i 0), none]) (by decide +kernel) (fun ad => Nat.le_of_ble_eq_true rfl) (fun ad => rfl) ?_
      refine s_X6_readsCondition_0 (by omega) u _ _ ?_
      refine (c1 d u code (by omega) hu hl).mono ?_
      rintro y w ⟨w1, w2, w3⟩
      exact ⟨_, w2, s_X6_readsCondition_6 (by omega) w _ _ (fun z => absurd rfl z) (fun _ => ⟨w1, rfl, w3⟩)⟩
    · obtain ⟨d, rfl⟩ : ∃ e, d = e + 1 := ⟨d - 1, by omega⟩
      refine ax_Ct.of (lv := [some (ax_r 0)]) (by decide +kernel) (fun ad => Nat.le_of_ble_eq_true rfl) (fun ad => rfl) ?_
      refine s_X12_condition_0 (by omega) u ?_
      refine (m1 d u cs (fun w => ax_W shM (d + 1) mX12_condition (mQ T n0 u m cs (cs.length + r.length + (8 * (6 - m) + 6)) (Sum.inl n)) 8 [some (ax_r 0)] [] w) (by omega) hu hl (fun w hw => ?_)).mono (fun y v hv => ⟨hv.1, s_X12_condition_4 (by omega) v hv.2⟩)
      refine s_X12_condition_8 (by omega) w ?_
      refine (ct_Or_e (by omega) hw.2.2.2.1).mono ?_
      rintro y v ⟨rfl, rfl⟩
      exact ⟨rfl, s_X12_condition_12 (by omega) v ⟨rfl, hw.2.1, hw.2.2.le (by omega)⟩⟩
  | inr q =>
    obtain ⟨q1, q2, q4, q3⟩ := p1
    obtain ⟨R2, p2, c2, m2⟩ := lp_or hT hn0 hm q.2.length q.2 (Nat.le_refl _) (fun c hc => hr c (q4 c hc)) (fun t ht => IH t (by omega))
    have cls : ∀ d u code (Q : Option ax_V → ax_S → Prop), 10 + 5 * (6 - m) ≤ d → cS T u r code → code.length + r.length ≤ 240 → (∀ y w v, fo lrS v u → cQ T v (code ++ lw_e q.1) R2 y w → Q y w) → ax_Ct shC d mX6_readsCondition [ax_r 3, ax_i (nI m), ax_i 0] Q u := by
      intro d u code Q hd hu hl K
      obtain ⟨d, rfl⟩ : ∃ e, d = e + 1 := ⟨d - 1, by omega⟩
      refine ax_Ct.of (lv := [some (ax_r 3), some (ax_i (nI m)), some (ax_i 0), none]) (by decide +kernel) (fun ad => Nat.le_of_ble_eq_true rfl) (fun ad => rfl) ?_
      refine s_X6_readsCondition_0 (by omega) u _ _ ?_
      refine (c1 d u code (by omega) hu hl).mono ?_
      rintro y w ⟨w1, w2, w3⟩
      refine ⟨_, w2, s_X6_readsCondition_6 (by omega) w _ _ (fun _ => ?_) (fun z => absurd (show ¬ (1 : Int32) = 0 by decide) z)⟩
      exact c2 d w _ 0 Q (by omega) w3 (by rw [List.length_append, lw_e_len]; omega) (by omega) (fun y x hx => K y x w w1 hx)
    have ref : ∀ d u cs (Q : Option ax_V → ax_S → Prop), 11 + 5 * (6 - m) ≤ d → mLs T n0 u r m cs → cs.length + r.length ≤ 240 → (∀ v w, fo (lmF n0) v u → mQ T n0 v m (cs ++ q.1) (cs.length + r.length + (8 * (6 - m) + 6)) R2 none w → Q none w) → ax_Ct shM d mX12_condition [ax_r 0] Q u := by
      intro d u cs Q hd hu hl K
      obtain ⟨d, rfl⟩ : ∃ e, d = e + 1 := ⟨d - 1, by omega⟩
      refine ax_Ct.of (lv := [some (ax_r 0)]) (by decide +kernel) (fun ad => Nat.le_of_ble_eq_true rfl) (fun ad => rfl) ?_
      refine s_X12_condition_0 (by omega) u ?_
      refine (m1 d u cs (fun w => ax_W shM (d + 1) mX12_condition Q 8 [some (ax_r 0)] [] w) (by omega) hu hl (fun w hw => ?_)).mono (fun y v hv => ⟨hv.1, s_X12_condition_4 (by omega) v hv.2⟩)
      obtain ⟨-, w1, w2⟩ := hw
      have hlen : (cs ++ q.1).length = cs.length + q.1.length := List.length_append
      refine s_X12_condition_8 (by omega) w ?_
      obtain ⟨d, rfl⟩ : ∃ e, d = e + 1 := ⟨d - 1, by omega⟩
      refine ax_Ct.of (lv := [some (ax_r 0)]) (by decide +kernel) (fun ad => Nat.le_of_ble_eq_true rfl) (fun ad => rfl) ?_
      refine m2 d w _ _ (by omega) w2 (by omega) (fun x hx => ⟨rfl, s_X12_condition_12 (by omega) x (K w x w1 ?_)⟩)
      cases R2 with
      | inl n => exact ⟨hx.1, hx.2.1, hx.2.2.le (by omega)⟩
      | inr q2 => exact hx
    cases R2 with
    | inl n =>
      refine ⟨Sum.inl n, by have : n ≤ q.2.length := p2
                            show n ≤ r.length; omega, fun d u code hd hu hl => ?_, fun d u cs hd hu hl => ?_⟩
      · exact cls d u code _ (by omega) hu hl (fun y w v hv hw => ⟨hw.1.trans hv, hw.2⟩)
      · exact ref d u cs _ (by omega) hu hl (fun v w hv hw => ⟨rfl, hw.2.1.trans hv, hw.2.2.le (by omega)⟩)
    | inr s =>
      obtain ⟨s1, s2, s4, s3⟩ := p2
      refine ⟨Sum.inr (q.1 ++ s.1, s.2), ⟨?_, ?_, fun c hc => q4 c (s4 c hc), fun k hk => ?_⟩, fun d u code hd hu hl => ?_, fun d u cs hd hu hl => ?_⟩
      · show (q.1 ++ s.1).length + s.2.length ≤ r.length
        rw [List.length_append]; omega
      · show s.2.length + 1 ≤ r.length; omega
      · exact le_ok_app (q3 k (by omega)) (s3 k (by omega))
      · refine cls d u code _ (by omega) hu hl (fun y w v hv hw => ⟨hw.1.trans hv, hw.2.1, ?_⟩)
        show cS T w s.2 (code ++ lw_e (q.1 ++ s.1))
        rw [lw_e_app, ← List.append_assoc]; exact hw.2.2
      · refine ref d u cs _ (by omega) hu hl (fun v w hv hw => ⟨rfl, hw.2.1.trans hv, ?_⟩)
        show mLs T n0 w s.2 m (cs ++ (q.1 ++ s.1))
        rw [← List.append_assoc]; exact hw.2.2
