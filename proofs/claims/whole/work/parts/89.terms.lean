/-! ===== TERM and SUM (both of one shape) ===== -/
theorem sg_le : ∀ {q : List Nat}, (∀ c ∈ q, c ≤ 255) → ∀ c ∈ sg q, c ≤ 255
  | [], _, c, hc => absurd hc List.not_mem_nil
  | a :: t, h, c, hc => by
    rw [sg] at hc
    split at hc
    · exact sg_le (fun c hc => h c (List.mem_cons_of_mem _ hc)) c hc
    · exact h c hc
/-! ===== TERM ===== -/
theorem lp_term {T : List Nat} (hT : tkOk T) {n0 m : Nat} (hn0 : n0 ≤ 4) (hm : m ≤ 6) : ∀ (N : Nat) (r : List Nat), r.length ≤ N → (∀ c ∈ r, c ≤ 255) → (∀ t, t.length < r.length → (∀ c ∈ t, c ≤ 255) → Am T n0 m t) → ∃ R : rR, PR [false] [false] (8 * m + 4) 0 r R ∧
    (∀ d u code i (Q : Option ax_V → ax_S → Prop), 3 + 4 * (6 - m) ≤ d → cS T u r code → code.length + r.length ≤ 240 → i + r.length ≤ 240 → (∀ y w, cQ T u code R y w → Q y w) → ax_W shC (d + 1) mX6_readsTerm Q 12 [some (ax_r 3), some (ax_i (nI m)), some (ax_i (nI i)), none] [] u) ∧
    (∀ d u cs (Q : Option ax_V → ax_S → Prop), 3 + 4 * (6 - m) ≤ d → mLs T n0 u (sg r) m cs → cs.length + r.length ≤ 240 → (∀ w, mQ T n0 u m cs (cs.length + r.length + (8 * (6 - m) + 1)) R none w → Q none w) → ax_W shM (d + 1) mX12_term Q 21 [some (ax_r 0), some (ax_i (hdI (sg r)))] [] u) := by
  intro N
  induction N with
  | zero =>
    intro r hN hr IH
    have e : r = [] := List.eq_nil_of_length_eq_zero (by omega)
    subst e
    refine ⟨Sum.inr ([], []), ⟨Nat.le_refl _, Nat.le_refl _, fun c hc => hc, fun k _ => rfl⟩, ?_, ?_⟩
    · intro d u code i Q hd hu hl hi K
      have fin : ∀ w, fo lrS w u → cS T w [] code → Q (some (ax_i 1)) w := fun w f hw => K _ _ ⟨f, rfl, by show cS T w [] (code ++ []); rw [List.append_nil]; exact hw⟩
      refine s_X6_readsTerm_12 (by omega) u _ _ (fun _ => fin u fo.rfl' hu) (fun _ => ?_)
      refine (ct_X9_sign (by omega) hT hu.1).mono ?_
      rintro y w ⟨rfl, w1, w2⟩
      refine ⟨_, rfl, s_X6_readsTerm_26 (by omega) w _ _ _ (fun z => absurd z (by decide)) (fun _ z => absurd z (by decide)) (fun _ _ => fin w (nu_lr (at_nu w1)) (hu.mv (at_nu w1) w2))⟩
    · intro d u cs Q hd hu hl K
      refine s_X12_term_21 (by omega) u _ (fun z => absurd z (by decide)) (fun _ _ => K u ⟨rfl, fo.rfl', by show mLs T n0 u [] m (cs ++ []); rw [List.append_nil]; exact hu⟩) (fun _ z => absurd (show ¬ (-1 : Int32) = 47 by decide) z)
  | succ N ih =>
    intro r hN hr IH
    have hsl := sg_len r
    have hs := sg_le hr
    have k1 := hdI_eq (r := sg r) (x := 42) hs (by omega)
    have k2 := hdI_eq (r := sg r) (x := 47) hs (by omega)
    by_cases a : ∃ c t, sg r = c :: t ∧ (c = 42 ∨ c = 47)
    · obtain ⟨c, t, ht, hc⟩ := a
      have htl : t.length + 1 ≤ r.length := by rw [ht] at hsl; exact hsl
      have hts : ∀ c ∈ t, c ≤ 255 := fun c hc => hs c (by rw [ht]; exact List.mem_cons_of_mem _ hc)
      obtain ⟨R1, p1, c1, m1⟩ := IH t (by omega) hts
      have ehd : hdI (sg r) = nI c := by rw [ht]; rfl
      have hcI : nI c = (42 : Int32) ∨ nI c = (47 : Int32) := hc.elim (fun h => Or.inl (congrArg nI h)) (fun h => Or.inr (congrArg nI h))
      generalize hop : (if c = 42 then 4 else 5) = op
      have hopI : (if ¬ nI c = (42 : Int32) then (5 : Int32) else (4 : Int32)) = nI op := by
        rcases hc with rfl | rfl
        · rw [← hop]; rfl
        · rw [← hop]; rfl
      have hop5 : 2 ≤ op ∧ op ≤ 5 := by rw [← hop]; split <;> omega
      -- from the loop's head to behind the second
      have cst : ∀ d u code i (Q : Option ax_V → ax_S → Prop), 3 + 4 * (6 - m) ≤ d → cS T u r code → code.length + r.length ≤ 240 → i + r.length ≤ 240 → (∀ y w, cQ T u code R1 y w → ∃ x : Int32, y = some (ax_i x) ∧ ax_W shC (d + 1) mX6_readsTerm Q 59 [some (ax_r 3), some (ax_i (nI m)), some (ax_i (nI i)), some (ax_i (nI c))] (ax_i x :: []) w) → ax_W shC (d + 1) mX6_readsTerm Q 12 [some (ax_r 3), some (ax_i (nI m)), some (ax_i (nI i)), none] [] u := by
        intro d u code i Q hd hu hl hi K
        refine s_X6_readsTerm_12 (by omega) u _ _ (fun z => absurd ((n_le 240 i).mp z) (by omega)) (fun _ => ?_)
        refine (ct_X9_sign (by omega) hT hu.1).mono ?_
        rintro y w ⟨rfl, w1, w2⟩
        have hw := hu.mv (at_nu w1) w2
        rw [ht] at hw
        obtain ⟨n1, n2⟩ := hw.next hT
        have go : ax_Ct shC d mX6_readsAtom [ax_r 3, ax_i (nI m)] (fun y v => ∃ x : Int32, y = some (ax_i x) ∧ ax_W shC (d + 1) mX6_readsTerm Q 59 [some (ax_r 3), some (ax_i (nI m)), some (ax_i (nI i)), some (ax_i (nI c))] (ax_i x :: []) v) (ax_ui w 1 2 (w.1 1 2 + 1)) := (c1 d _ code (by omega) n1 (by omega)).mono (fun y v hv => K y v ⟨hv.1.trans (n2.trans (nu_lr (at_nu w1))), hv.2⟩)
        rw [ehd]
        exact ⟨_, rfl, s_X6_readsTerm_26 (by omega) w _ _ _ (fun _ => go) (fun _ _ => go) (fun z1 z2 => hcI.elim (fun q => absurd q z1) (fun q => absurd q z2))⟩
      have mst : ∀ d u cs (Q : Option ax_V → ax_S → Prop), 3 + 4 * (6 - m) ≤ d → mLs T n0 u (sg r) m cs → cs.length + r.length ≤ 240 → (∀ w, mQ T n0 u m cs (cs.length + t.length + 8 * (6 - m)) R1 none w → ax_W shM (d + 1) mX12_term Q 47 [some (ax_r 0), some (ax_i (nI c))] [] w) → ax_W shM (d + 1) mX12_term Q 21 [some (ax_r 0), some (ax_i (hdI (sg r)))] [] u := by
        intro d u cs Q hd hu hl K
        rw [ht] at hu
        obtain ⟨n1, n2⟩ := hu.next hT
        have go : ax_Ct shM d mX12_atom [ax_r 0] (fun y v => y = none ∧ ax_W shM (d + 1) mX12_term Q 47 [some (ax_r 0), some (ax_i (nI c))] [] v) (ax_ui u 0 3 (u.1 0 3 + 1)) := (m1 d _ cs (by omega) n1 (by omega)).mono (fun y v hv => ⟨hv.1, K v ⟨rfl, hv.2.1.trans n2, hv.2.2⟩⟩)
        rw [ehd]
        exact s_X12_term_21 (by omega) u _ (fun _ => go) (fun z1 z2 => hcI.elim (fun q => absurd q z1) (fun q => absurd q z2)) (fun _ _ => go)
      cases R1 with
      | inl n =>
        refine ⟨Sum.inl n, by have : n ≤ t.length := p1
                              show n ≤ r.length; omega, fun d u code i Q hd hu hl hi K => ?_, fun d u cs Q hd hu hl K => ?_⟩
        · refine cst d u code i Q hd hu hl hi (fun y w hw => ⟨_, hw.2.1, s_X6_readsTerm_59 (by omega) w _ _ _ _ (fun z => absurd rfl z) (fun _ => K _ _ ⟨hw.1, rfl, hw.2.2⟩)⟩)
        · refine mst d u cs Q hd hu hl (fun w hw => ?_)
          obtain ⟨-, f1, e1⟩ := hw
          obtain ⟨cs', hP, hcs⟩ := e1.2.2
          obtain ⟨i1, i2⟩ := put_in hP hn0 (by omega)
          have e2 := (e1.le (B' := cs.length + r.length + (8 * (6 - m) + 1)) (by omega)).put hP (by omega) op 0
          have hfin : ax_W shM (d + 1) mX12_term Q 21 [some (ax_r 0), some (ax_i (-1))] [] (pu w n0 cs'.length (nI op) (nI 0)) := s_X12_term_21 (by omega) _ _ (fun z => absurd z (by decide)) (fun _ _ => K _ ⟨rfl, (pu_fo _ _ _ _ _).trans f1, e2⟩) (fun _ z => absurd (show ¬ (-1 : Int32) = 47 by decide) z)
          refine s_X12_term_47 (by omega) w _ i1 i2 (fun _ => ?_) (fun z => absurd e1.2.1 z)
          rw [hopI, put_eq hP hn0 (by omega)]; exact hfin
      | inr q =>
        obtain ⟨q1, q2, q4, q3⟩ := p1
        have hqs : ∀ c ∈ q.2, c ≤ 255 := fun c hc => hts c (q4 c hc)
        obtain ⟨R2, p2, c2, m2⟩ := ih q.2 (by omega) hqs (fun t' ht' => IH t' (by omega))
        have hput : ∀ d u code i (Q : Option ax_V → ax_S → Prop), 3 + 4 * (6 - m) ≤ d → cS T u r code → code.length + r.length ≤ 240 → i + r.length ≤ 240 → (∀ y w v, fo lrS v u → cQ T v (code ++ (lw_e q.1 ++ [op])) R2 y w → Q y w) → ax_W shC (d + 1) mX6_readsTerm Q 12 [some (ax_r 3), some (ax_i (nI m)), some (ax_i (nI i)), none] [] u := by
          intro d u code i Q hd hu hl hi K
          refine cst d u code i Q hd hu hl hi (fun y w hw => ⟨_, hw.2.1, s_X6_readsTerm_59 (by omega) w _ _ _ _ (fun _ => ?_) (fun z => absurd (show ¬ (1 : Int32) = 0 by decide) z)⟩)
          have hw2 := hw.2.2
          have hlen : (code ++ lw_e q.1).length = code.length + q.1.length := by rw [List.length_append, lw_e_len]
          rw [hopI]
          refine (ct_X6_put (by omega) hw2 (by omega) (a := op) (by omega) (v := 0) (by omega)).mono ?_
          rintro y v ⟨rfl, v1, v2⟩
          refine ⟨rfl, s_X6_readsTerm_80 (by omega) v _ _ ?_⟩
          rw [nI_1]
          have v2' : cS T v q.2 (code ++ (lw_e q.1 ++ [op])) := by rw [← List.append_assoc]; exact v2
          refine c2 d v _ (i + 1) Q hd v2' (by rw [List.length_append, List.length_append, lw_e_len]; show code.length + (q.1.length + 1) + q.2.length ≤ 240; omega) (by omega) (fun y x hx => K y x v (v1.trans hw.1) hx)
        have mput : ∀ d u cs (Q : Option ax_V → ax_S → Prop), 3 + 4 * (6 - m) ≤ d → mLs T n0 u (sg r) m cs → cs.length + r.length ≤ 240 → (∀ v w, fo (lmF n0) v u → mQ T n0 v m (cs ++ (q.1 ++ [(op, 0)])) (cs.length + r.length + (8 * (6 - m) + 1)) R2 none w → Q none w) → ax_W shM (d + 1) mX12_term Q 21 [some (ax_r 0), some (ax_i (hdI (sg r)))] [] u := by
          intro d u cs Q hd hu hl K
          refine mst d u cs Q hd hu hl (fun w hw => ?_)
          obtain ⟨-, f1, e1⟩ := hw
          have hlen : (cs ++ q.1).length = cs.length + q.1.length := List.length_append
          obtain ⟨i1, i2⟩ := put_in e1.2.2.2 hn0 (by omega)
          have e2 := e1.put op 0
          rw [List.append_assoc] at e2
          refine s_X12_term_47 (by omega) w _ i1 i2 (fun z => absurd e1.2.1 z) (fun _ => ?_)
          rw [hopI, put_eq e1.2.2.2 hn0 (by omega)]
          refine (ct_X12_look (by omega) hT e2.1).mono ?_
          rintro y v ⟨rfl, v1, v2⟩
          have e3 := e2.mv v1 v2
          have f3 : fo (lmF n0) v u := (at_lm v1).trans ((pu_fo _ _ _ _ _).trans f1)
          have hlen2 : (cs ++ (q.1 ++ [(op, 0)])).length = cs.length + q.1.length + 1 := by rw [List.length_append, List.length_append]; rfl
          refine ⟨_, rfl, s_X12_term_75 (by omega) v _ (m2 d v _ Q hd e3 (by omega) (fun x hx => K v x f3 ?_))⟩
          cases R2 with
          | inl n => exact ⟨hx.1, hx.2.1, hx.2.2.le (by omega)⟩
          | inr q2 => exact hx
        cases R2 with
        | inl n =>
          refine ⟨Sum.inl n, by have : n ≤ q.2.length := p2
                                show n ≤ r.length; omega, fun d u code i Q hd hu hl hi K => ?_, fun d u cs Q hd hu hl K => ?_⟩
          · exact hput d u code i Q hd hu hl hi (fun y w v hv hw => K y w ⟨hw.1.trans hv, hw.2⟩)
          · exact mput d u cs Q hd hu hl (fun v w hv hw => K w ⟨rfl, hw.2.1.trans hv, hw.2.2⟩)
        | inr s =>
          obtain ⟨s1, s2, s4, s3⟩ := p2
          refine ⟨Sum.inr (q.1 ++ ([(op, 0)] ++ s.1), s.2), ⟨?_, ?_, fun c hc => sg_sub (by rw [ht]; exact List.mem_cons_of_mem _ (q4 c (s4 c hc))), fun k hk => ?_⟩, fun d u code i Q hd hu hl hi K => ?_, fun d u cs Q hd hu hl K => ?_⟩
          · show (q.1 ++ ([(op, 0)] ++ s.1)).length + s.2.length ≤ r.length
            rw [List.length_append, List.length_append]
            have : [(op, 0)].length = 1 := rfl
            omega
          · show s.2.length + 0 ≤ r.length; omega
          · refine le_ok_app (q3 (false :: k) (by rw [List.length_cons]; omega)) ?_
            exact Or.inr (Or.inr (Or.inr (Or.inl ⟨hop5.1, hop5.2, rfl, k, rfl, s3 k (by omega)⟩)))
          · refine hput d u code i Q hd hu hl hi (fun y w v hv hw => K y w ⟨hw.1.trans hv, hw.2.1, ?_⟩)
            show cS T w s.2 (code ++ lw_e (q.1 ++ ([(op, 0)] ++ s.1)))
            rw [lw_e_app, lw_e_app, ← List.append_assoc, ← List.append_assoc]
            have := hw.2.2
            rw [← List.append_assoc] at this; exact this
          · refine mput d u cs Q hd hu hl (fun v w hv hw => K w ⟨rfl, hw.2.1.trans hv, ?_⟩)
            show mLs T n0 w s.2 m (cs ++ (q.1 ++ ([(op, 0)] ++ s.1)))
            have := hw.2.2
            rw [← List.append_assoc q.1, ← List.append_assoc cs]; exact this
    · have n1 : ¬ hdI (sg r) = (42 : Int32) := fun z => by obtain ⟨t, ht⟩ := k1.mp z; exact a ⟨_, t, ht, Or.inl rfl⟩
      have n2 : ¬ hdI (sg r) = (47 : Int32) := fun z => by obtain ⟨t, ht⟩ := k2.mp z; exact a ⟨_, t, ht, Or.inr rfl⟩
      refine ⟨Sum.inr ([], sg r), ⟨by show 0 + (sg r).length ≤ r.length; omega, by show (sg r).length + 0 ≤ r.length; omega, fun c hc => sg_sub hc, fun k _ => rfl⟩, ?_, ?_⟩
      · intro d u code i Q hd hu hl hi K
        by_cases hi2 : i < 240
        · refine s_X6_readsTerm_12 (by omega) u _ _ (fun z => absurd ((n_le 240 i).mp z) (by omega)) (fun _ => ?_)
          refine (ct_X9_sign (by omega) hT hu.1).mono ?_
          rintro y w ⟨rfl, w1, w2⟩
          refine ⟨_, rfl, s_X6_readsTerm_26 (by omega) w _ _ _ (fun z => absurd z n1) (fun _ z => absurd z n2) (fun _ _ => K _ _ ⟨nu_lr (at_nu w1), rfl, ?_⟩)⟩
          show cS T w (sg r) (code ++ []); rw [List.append_nil]; exact hu.mv (at_nu w1) w2
        · have e : r = [] := List.eq_nil_of_length_eq_zero (by omega)
          subst e
          refine s_X6_readsTerm_12 (by omega) u _ _ (fun _ => K _ _ ⟨fo.rfl', rfl, by show cS T u [] (code ++ []); rw [List.append_nil]; exact hu⟩) (fun z => absurd ((n_le 240 i).mpr (by omega)) z)
      · intro d u cs Q hd hu hl K
        exact s_X12_term_21 (by omega) u _ (fun z => absurd z n1) (fun _ _ => K u ⟨rfl, fo.rfl', by show mLs T n0 u (sg r) m (cs ++ []); rw [List.append_nil]; exact hu⟩) (fun _ z => absurd n2 z)
theorem nt_term {T : List Nat} (hT : tkOk T) {n0 m : Nat} (hn0 : n0 ≤ 4) (hm : m ≤ 6) {r : List Nat} (hr : ∀ c ∈ r, c ≤ 255) (IH : ∀ t, t.length ≤ r.length → (∀ c ∈ t, c ≤ 255) → Am T n0 m t) : Tm T n0 m r := by
  obtain ⟨R1, p1, c1, m1⟩ := IH r (Nat.le_refl _) hr
  cases R1 with
  | inl n =>
    refine ⟨Sum.inl n, p1, fun d u code hd hu hl => ?_, fun d u cs hd hu hl => ?_⟩
    · obtain ⟨d, rfl⟩ : ∃ e, d = e + 1 := ⟨d - 1, by omega⟩
      refine ax_Ct.of (lv := [some (ax_r 3), some (ax_i (nI m)), none, none]) (by decide +kernel) (fun ad => Nat.le_of_ble_eq_true rfl) (fun ad => rfl) ?_
      refine s_X6_readsTerm_0 (by omega) u _ ?_
      refine (c1 d u code (by omega) hu hl).mono ?_
      rintro y w ⟨w1, w2, w3⟩
      exact ⟨_, w2, s_X6_readsTerm_5 (by omega) w _ _ (fun z => absurd rfl z) (fun _ => ⟨w1, rfl, w3⟩)⟩
    · obtain ⟨d, rfl⟩ : ∃ e, d = e + 1 := ⟨d - 1, by omega⟩
      refine ax_Ct.of (lv := [some (ax_r 0), none]) (by decide +kernel) (fun ad => Nat.le_of_ble_eq_true rfl) (fun ad => rfl) ?_
      refine s_X12_term_0 (by omega) u ?_
      refine (m1 d u cs (by omega) hu hl).mono ?_
      rintro y w ⟨rfl, w1, w2⟩
      refine ⟨rfl, s_X12_term_4 (by omega) w (fun _ => ?_) (fun z => absurd w2.2.1 z)⟩
      exact s_X12_term_21 (by omega) w _ (fun z => absurd z (by decide)) (fun _ _ => ⟨rfl, w1, w2.le (by omega)⟩) (fun _ z => absurd (show ¬ (-1 : Int32) = 47 by decide) z)
  | inr q =>
    obtain ⟨q1, q2, q4, q3⟩ := p1
    obtain ⟨R2, p2, c2, m2⟩ := lp_term hT hn0 hm q.2.length q.2 (Nat.le_refl _) (fun c hc => hr c (q4 c hc)) (fun t ht => IH t (by omega))
    have cls : ∀ d u code (Q : Option ax_V → ax_S → Prop), 3 + 1 + 4 * (6 - m) ≤ d → cS T u r code → code.length + r.length ≤ 240 → (∀ y w v, fo lrS v u → cQ T v (code ++ lw_e q.1) R2 y w → Q y w) → ax_Ct shC d mX6_readsTerm [ax_r 3, ax_i (nI m)] Q u := by
      intro d u code Q hd hu hl K
      obtain ⟨d, rfl⟩ : ∃ e, d = e + 1 := ⟨d - 1, by omega⟩
      refine ax_Ct.of (lv := [some (ax_r 3), some (ax_i (nI m)), none, none]) (by decide +kernel) (fun ad => Nat.le_of_ble_eq_true rfl) (fun ad => rfl) ?_
      refine s_X6_readsTerm_0 (by omega) u _ ?_
      refine (c1 d u code (by omega) hu hl).mono ?_
      rintro y w ⟨w1, w2, w3⟩
      refine ⟨_, w2, s_X6_readsTerm_5 (by omega) w _ _ (fun _ => ?_) (fun z => absurd (show ¬ (1 : Int32) = 0 by decide) z)⟩
      exact c2 d w _ 0 Q (by omega) w3 (by rw [List.length_append, lw_e_len]; omega) (by omega) (fun y x hx => K y x w w1 hx)
    have ref : ∀ d u cs (Q : Option ax_V → ax_S → Prop), 3 + 1 + 4 * (6 - m) ≤ d → mLs T n0 u r m cs → cs.length + r.length ≤ 240 → (∀ v w, fo (lmF n0) v u → mQ T n0 v m (cs ++ q.1) (cs.length + r.length + (8 * (6 - m) + 1)) R2 none w → Q none w) → ax_Ct shM d mX12_term [ax_r 0] Q u := by
      intro d u cs Q hd hu hl K
      obtain ⟨d, rfl⟩ : ∃ e, d = e + 1 := ⟨d - 1, by omega⟩
      refine ax_Ct.of (lv := [some (ax_r 0), none]) (by decide +kernel) (fun ad => Nat.le_of_ble_eq_true rfl) (fun ad => rfl) ?_
      refine s_X12_term_0 (by omega) u ?_
      refine (m1 d u cs (by omega) hu hl).mono ?_
      rintro y w ⟨rfl, w1, w2⟩
      have hlen : (cs ++ q.1).length = cs.length + q.1.length := List.length_append
      refine ⟨rfl, s_X12_term_4 (by omega) w (fun z => absurd w2.2.1 z) (fun _ => ?_)⟩
      refine (ct_X12_look (by omega) hT w2.1).mono ?_
      rintro y v ⟨rfl, v1, v2⟩
      refine ⟨_, rfl, s_X12_term_16 (by omega) v _ (m2 d v _ Q (by omega) (w2.mv v1 v2) (by omega) (fun x hx => K v x ((at_lm v1).trans w1) ?_))⟩
      cases R2 with
      | inl n => exact ⟨hx.1, hx.2.1, hx.2.2.le (by omega)⟩
      | inr q2 => exact hx
    cases R2 with
    | inl n =>
      refine ⟨Sum.inl n, by have : n ≤ q.2.length := p2
                            show n ≤ r.length; omega, fun d u code hd hu hl => ?_, fun d u cs hd hu hl => ?_⟩
      · exact cls d u code _ (by omega) hu hl (fun y w v hv hw => ⟨hw.1.trans hv, hw.2⟩)
      · exact ref d u cs _ (by omega) hu hl (fun v w hv hw => ⟨rfl, hw.2.1.trans hv, hw.2.2.le (by omega)⟩)
    | inr s =>
      obtain ⟨s1, s2, s4, s3⟩ := p2
      refine ⟨Sum.inr (q.1 ++ s.1, s.2), ⟨?_, ?_, fun c hc => q4 c (s4 c hc), fun k hk => ?_⟩, fun d u code hd hu hl => ?_, fun d u cs hd hu hl => ?_⟩
      · show (q.1 ++ s.1).length + s.2.length ≤ r.length
        rw [List.length_append]; omega
      · show s.2.length + 1 ≤ r.length; omega
      · exact le_ok_app (q3 k (by omega)) (s3 k (by omega))
      · refine cls d u code _ (by omega) hu hl (fun y w v hv hw => ⟨hw.1.trans hv, hw.2.1, ?_⟩)
        show cS T w s.2 (code ++ lw_e (q.1 ++ s.1))
        rw [lw_e_app, ← List.append_assoc]; exact hw.2.2
      · refine ref d u cs _ (by omega) hu hl (fun v w hv hw => ⟨rfl, hw.2.1.trans hv, ?_⟩)
        show mLs T n0 w s.2 m (cs ++ (q.1 ++ s.1))
        rw [← List.append_assoc]; exact hw.2.2
/-! ===== SUM ===== -/
theorem lp_sum {T : List Nat} (hT : tkOk T) {n0 m : Nat} (hn0 : n0 ≤ 4) (hm : m ≤ 6) : ∀ (N : Nat) (r : List Nat), r.length ≤ N → (∀ c ∈ r, c ≤ 255) → (∀ t, t.length < r.length → (∀ c ∈ t, c ≤ 255) → Tm T n0 m t) → ∃ R : rR, PR [false] [false] (8 * m + 3) 0 r R ∧
    (∀ d u code i (Q : Option ax_V → ax_S → Prop), 4 + 4 * (6 - m) ≤ d → cS T u r code → code.length + r.length ≤ 240 → i + r.length ≤ 240 → (∀ y w, cQ T u code R y w → Q y w) → ax_W shC (d + 1) mX6_readsSum Q 12 [some (ax_r 3), some (ax_i (nI m)), some (ax_i (nI i)), none] [] u) ∧
    (∀ d u cs (Q : Option ax_V → ax_S → Prop), 4 + 4 * (6 - m) ≤ d → mLs T n0 u (sg r) m cs → cs.length + r.length ≤ 240 → (∀ w, mQ T n0 u m cs (cs.length + r.length + (8 * (6 - m) + 2)) R none w → Q none w) → ax_W shM (d + 1) mX12_sum Q 21 [some (ax_r 0), some (ax_i (hdI (sg r)))] [] u) := by
  intro N
  induction N with
  | zero =>
    intro r hN hr IH
    have e : r = [] := List.eq_nil_of_length_eq_zero (by omega)
    subst e
    refine ⟨Sum.inr ([], []), ⟨Nat.le_refl _, Nat.le_refl _, fun c hc => hc, fun k _ => rfl⟩, ?_, ?_⟩
    · intro d u code i Q hd hu hl hi K
      have fin : ∀ w, fo lrS w u → cS T w [] code → Q (some (ax_i 1)) w := fun w f hw => K _ _ ⟨f, rfl, by show cS T w [] (code ++ []); rw [List.append_nil]; exact hw⟩
      refine s_X6_readsSum_12 (by omega) u _ _ (fun _ => fin u fo.rfl' hu) (fun _ => ?_)
      refine (ct_X9_sign (by omega) hT hu.1).mono ?_
      rintro y w ⟨rfl, w1, w2⟩
      refine ⟨_, rfl, s_X6_readsSum_26 (by omega) w _ _ _ (fun z => absurd z (by decide)) (fun _ z => absurd z (by decide)) (fun _ _ => fin w (nu_lr (at_nu w1)) (hu.mv (at_nu w1) w2))⟩
    · intro d u cs Q hd hu hl K
      refine s_X12_sum_21 (by omega) u _ (fun z => absurd z (by decide)) (fun _ _ => K u ⟨rfl, fo.rfl', by show mLs T n0 u [] m (cs ++ []); rw [List.append_nil]; exact hu⟩) (fun _ z => absurd (show ¬ (-1 : Int32) = 45 by decide) z)
  | succ N ih =>
    intro r hN hr IH
    have hsl := sg_len r
    have hs := sg_le hr
    have k1 := hdI_eq (r := sg r) (x := 43) hs (by omega)
    have k2 := hdI_eq (r := sg r) (x := 45) hs (by omega)
    by_cases a : ∃ c t, sg r = c :: t ∧ (c = 43 ∨ c = 45)
    · obtain ⟨c, t, ht, hc⟩ := a
      have htl : t.length + 1 ≤ r.length := by rw [ht] at hsl; exact hsl
      have hts : ∀ c ∈ t, c ≤ 255 := fun c hc => hs c (by rw [ht]; exact List.mem_cons_of_mem _ hc)
      obtain ⟨R1, p1, c1, m1⟩ := IH t (by omega) hts
      have ehd : hdI (sg r) = nI c := by rw [ht]; rfl
      have hcI : nI c = (43 : Int32) ∨ nI c = (45 : Int32) := hc.elim (fun h => Or.inl (congrArg nI h)) (fun h => Or.inr (congrArg nI h))
      generalize hop : (if c = 43 then 2 else 3) = op
      have hopI : (if ¬ nI c = (43 : Int32) then (3 : Int32) else (2 : Int32)) = nI op := by
        rcases hc with rfl | rfl
        · rw [← hop]; rfl
        · rw [← hop]; rfl
      have hop5 : 2 ≤ op ∧ op ≤ 5 := by rw [← hop]; split <;> omega
      -- from the loop's head to behind the second
      have cst : ∀ d u code i (Q : Option ax_V → ax_S → Prop), 4 + 4 * (6 - m) ≤ d → cS T u r code → code.length + r.length ≤ 240 → i + r.length ≤ 240 → (∀ y w, cQ T u code R1 y w → ∃ x : Int32, y = some (ax_i x) ∧ ax_W shC (d + 1) mX6_readsSum Q 59 [some (ax_r 3), some (ax_i (nI m)), some (ax_i (nI i)), some (ax_i (nI c))] (ax_i x :: []) w) → ax_W shC (d + 1) mX6_readsSum Q 12 [some (ax_r 3), some (ax_i (nI m)), some (ax_i (nI i)), none] [] u := by
        intro d u code i Q hd hu hl hi K
        refine s_X6_readsSum_12 (by omega) u _ _ (fun z => absurd ((n_le 240 i).mp z) (by omega)) (fun _ => ?_)
        refine (ct_X9_sign (by omega) hT hu.1).mono ?_
        rintro y w ⟨rfl, w1, w2⟩
        have hw := hu.mv (at_nu w1) w2
        rw [ht] at hw
        obtain ⟨n1, n2⟩ := hw.next hT
        have go : ax_Ct shC d mX6_readsTerm [ax_r 3, ax_i (nI m)] (fun y v => ∃ x : Int32, y = some (ax_i x) ∧ ax_W shC (d + 1) mX6_readsSum Q 59 [some (ax_r 3), some (ax_i (nI m)), some (ax_i (nI i)), some (ax_i (nI c))] (ax_i x :: []) v) (ax_ui w 1 2 (w.1 1 2 + 1)) := (c1 d _ code (by omega) n1 (by omega)).mono (fun y v hv => K y v ⟨hv.1.trans (n2.trans (nu_lr (at_nu w1))), hv.2⟩)
        rw [ehd]
        exact ⟨_, rfl, s_X6_readsSum_26 (by omega) w _ _ _ (fun _ => go) (fun _ _ => go) (fun z1 z2 => hcI.elim (fun q => absurd q z1) (fun q => absurd q z2))⟩
      have mst : ∀ d u cs (Q : Option ax_V → ax_S → Prop), 4 + 4 * (6 - m) ≤ d → mLs T n0 u (sg r) m cs → cs.length + r.length ≤ 240 → (∀ w, mQ T n0 u m cs (cs.length + t.length + (8 * (6 - m) + 1)) R1 none w → ax_W shM (d + 1) mX12_sum Q 47 [some (ax_r 0), some (ax_i (nI c))] [] w) → ax_W shM (d + 1) mX12_sum Q 21 [some (ax_r 0), some (ax_i (hdI (sg r)))] [] u := by
        intro d u cs Q hd hu hl K
        rw [ht] at hu
        obtain ⟨n1, n2⟩ := hu.next hT
        have go : ax_Ct shM d mX12_term [ax_r 0] (fun y v => y = none ∧ ax_W shM (d + 1) mX12_sum Q 47 [some (ax_r 0), some (ax_i (nI c))] [] v) (ax_ui u 0 3 (u.1 0 3 + 1)) := (m1 d _ cs (by omega) n1 (by omega)).mono (fun y v hv => ⟨hv.1, K v ⟨rfl, hv.2.1.trans n2, hv.2.2⟩⟩)
        rw [ehd]
        exact s_X12_sum_21 (by omega) u _ (fun _ => go) (fun z1 z2 => hcI.elim (fun q => absurd q z1) (fun q => absurd q z2)) (fun _ _ => go)
      cases R1 with
      | inl n =>
        refine ⟨Sum.inl n, by have : n ≤ t.length := p1
                              show n ≤ r.length; omega, fun d u code i Q hd hu hl hi K => ?_, fun d u cs Q hd hu hl K => ?_⟩
        · refine cst d u code i Q hd hu hl hi (fun y w hw => ⟨_, hw.2.1, s_X6_readsSum_59 (by omega) w _ _ _ _ (fun z => absurd rfl z) (fun _ => K _ _ ⟨hw.1, rfl, hw.2.2⟩)⟩)
        · refine mst d u cs Q hd hu hl (fun w hw => ?_)
          obtain ⟨-, f1, e1⟩ := hw
          obtain ⟨cs', hP, hcs⟩ := e1.2.2
          obtain ⟨i1, i2⟩ := put_in hP hn0 (by omega)
          have e2 := (e1.le (B' := cs.length + r.length + (8 * (6 - m) + 2)) (by omega)).put hP (by omega) op 0
          have hfin : ax_W shM (d + 1) mX12_sum Q 21 [some (ax_r 0), some (ax_i (-1))] [] (pu w n0 cs'.length (nI op) (nI 0)) := s_X12_sum_21 (by omega) _ _ (fun z => absurd z (by decide)) (fun _ _ => K _ ⟨rfl, (pu_fo _ _ _ _ _).trans f1, e2⟩) (fun _ z => absurd (show ¬ (-1 : Int32) = 45 by decide) z)
          refine s_X12_sum_47 (by omega) w _ i1 i2 (fun _ => ?_) (fun z => absurd e1.2.1 z)
          rw [hopI, put_eq hP hn0 (by omega)]; exact hfin
      | inr q =>
        obtain ⟨q1, q2, q4, q3⟩ := p1
        have hqs : ∀ c ∈ q.2, c ≤ 255 := fun c hc => hts c (q4 c hc)
        obtain ⟨R2, p2, c2, m2⟩ := ih q.2 (by omega) hqs (fun t' ht' => IH t' (by omega))
        have hput : ∀ d u code i (Q : Option ax_V → ax_S → Prop), 4 + 4 * (6 - m) ≤ d → cS T u r code → code.length + r.length ≤ 240 → i + r.length ≤ 240 → (∀ y w v, fo lrS v u → cQ T v (code ++ (lw_e q.1 ++ [op])) R2 y w → Q y w) → ax_W shC (d + 1) mX6_readsSum Q 12 [some (ax_r 3), some (ax_i (nI m)), some (ax_i (nI i)), none] [] u := by
          intro d u code i Q hd hu hl hi K
          refine cst d u code i Q hd hu hl hi (fun y w hw => ⟨_, hw.2.1, s_X6_readsSum_59 (by omega) w _ _ _ _ (fun _ => ?_) (fun z => absurd (show ¬ (1 : Int32) = 0 by decide) z)⟩)
          have hw2 := hw.2.2
          have hlen : (code ++ lw_e q.1).length = code.length + q.1.length := by rw [List.length_append, lw_e_len]
          rw [hopI]
          refine (ct_X6_put (by omega) hw2 (by omega) (a := op) (by omega) (v := 0) (by omega)).mono ?_
          rintro y v ⟨rfl, v1, v2⟩
          refine ⟨rfl, s_X6_readsSum_80 (by omega) v _ _ ?_⟩
          rw [nI_1]
          have v2' : cS T v q.2 (code ++ (lw_e q.1 ++ [op])) := by rw [← List.append_assoc]; exact v2
          refine c2 d v _ (i + 1) Q hd v2' (by rw [List.length_append, List.length_append, lw_e_len]; show code.length + (q.1.length + 1) + q.2.length ≤ 240; omega) (by omega) (fun y x hx => K y x v (v1.trans hw.1) hx)
        have mput : ∀ d u cs (Q : Option ax_V → ax_S → Prop), 4 + 4 * (6 - m) ≤ d → mLs T n0 u (sg r) m cs → cs.length + r.length ≤ 240 → (∀ v w, fo (lmF n0) v u → mQ T n0 v m (cs ++ (q.1 ++ [(op, 0)])) (cs.length + r.length + (8 * (6 - m) + 2)) R2 none w → Q none w) → ax_W shM (d + 1) mX12_sum Q 21 [some (ax_r 0), some (ax_i (hdI (sg r)))] [] u := by
          intro d u cs Q hd hu hl K
          refine mst d u cs Q hd hu hl (fun w hw => ?_)
          obtain ⟨-, f1, e1⟩ := hw
          have hlen : (cs ++ q.1).length = cs.length + q.1.length := List.length_append
          obtain ⟨i1, i2⟩ := put_in e1.2.2.2 hn0 (by omega)
          have e2 := e1.put op 0
          rw [List.append_assoc] at e2
          refine s_X12_sum_47 (by omega) w _ i1 i2 (fun z => absurd e1.2.1 z) (fun _ => ?_)
          rw [hopI, put_eq e1.2.2.2 hn0 (by omega)]
          refine (ct_X12_look (by omega) hT e2.1).mono ?_
          rintro y v ⟨rfl, v1, v2⟩
          have e3 := e2.mv v1 v2
          have f3 : fo (lmF n0) v u := (at_lm v1).trans ((pu_fo _ _ _ _ _).trans f1)
          have hlen2 : (cs ++ (q.1 ++ [(op, 0)])).length = cs.length + q.1.length + 1 := by rw [List.length_append, List.length_append]; rfl
          refine ⟨_, rfl, s_X12_sum_75 (by omega) v _ (m2 d v _ Q hd e3 (by omega) (fun x hx => K v x f3 ?_))⟩
          cases R2 with
          | inl n => exact ⟨hx.1, hx.2.1, hx.2.2.le (by omega)⟩
          | inr q2 => exact hx
        cases R2 with
        | inl n =>
          refine ⟨Sum.inl n, by have : n ≤ q.2.length := p2
                                show n ≤ r.length; omega, fun d u code i Q hd hu hl hi K => ?_, fun d u cs Q hd hu hl K => ?_⟩
          · exact hput d u code i Q hd hu hl hi (fun y w v hv hw => K y w ⟨hw.1.trans hv, hw.2⟩)
          · exact mput d u cs Q hd hu hl (fun v w hv hw => K w ⟨rfl, hw.2.1.trans hv, hw.2.2⟩)
        | inr s =>
          obtain ⟨s1, s2, s4, s3⟩ := p2
          refine ⟨Sum.inr (q.1 ++ ([(op, 0)] ++ s.1), s.2), ⟨?_, ?_, fun c hc => sg_sub (by rw [ht]; exact List.mem_cons_of_mem _ (q4 c (s4 c hc))), fun k hk => ?_⟩, fun d u code i Q hd hu hl hi K => ?_, fun d u cs Q hd hu hl K => ?_⟩
          · show (q.1 ++ ([(op, 0)] ++ s.1)).length + s.2.length ≤ r.length
            rw [List.length_append, List.length_append]
            have : [(op, 0)].length = 1 := rfl
            omega
          · show s.2.length + 0 ≤ r.length; omega
          · refine le_ok_app (q3 (false :: k) (by rw [List.length_cons]; omega)) ?_
            exact Or.inr (Or.inr (Or.inr (Or.inl ⟨hop5.1, hop5.2, rfl, k, rfl, s3 k (by omega)⟩)))
          · refine hput d u code i Q hd hu hl hi (fun y w v hv hw => K y w ⟨hw.1.trans hv, hw.2.1, ?_⟩)
            show cS T w s.2 (code ++ lw_e (q.1 ++ ([(op, 0)] ++ s.1)))
            rw [lw_e_app, lw_e_app, ← List.append_assoc, ← List.append_assoc]
            have := hw.2.2
            rw [← List.append_assoc] at this; exact this
          · refine mput d u cs Q hd hu hl (fun v w hv hw => K w ⟨rfl, hw.2.1.trans hv, ?_⟩)
            show mLs T n0 w s.2 m (cs ++ (q.1 ++ ([(op, 0)] ++ s.1)))
            have := hw.2.2
            rw [← List.append_assoc q.1, ← List.append_assoc cs]; exact this
    · have n1 : ¬ hdI (sg r) = (43 : Int32) := fun z => by obtain ⟨t, ht⟩ := k1.mp z; exact a ⟨_, t, ht, Or.inl rfl⟩
      have n2 : ¬ hdI (sg r) = (45 : Int32) := fun z => by obtain ⟨t, ht⟩ := k2.mp z; exact a ⟨_, t, ht, Or.inr rfl⟩
      refine ⟨Sum.inr ([], sg r), ⟨by show 0 + (sg r).length ≤ r.length; omega, by show (sg r).length + 0 ≤ r.length; omega, fun c hc => sg_sub hc, fun k _ => rfl⟩, ?_, ?_⟩
      · intro d u code i Q hd hu hl hi K
        by_cases hi2 : i < 240
        · refine s_X6_readsSum_12 (by omega) u _ _ (fun z => absurd ((n_le 240 i).mp z) (by omega)) (fun _ => ?_)
          refine (ct_X9_sign (by omega) hT hu.1).mono ?_
          rintro y w ⟨rfl, w1, w2⟩
          refine ⟨_, rfl, s_X6_readsSum_26 (by omega) w _ _ _ (fun z => absurd z n1) (fun _ z => absurd z n2) (fun _ _ => K _ _ ⟨nu_lr (at_nu w1), rfl, ?_⟩)⟩
          show cS T w (sg r) (code ++ []); rw [List.append_nil]; exact hu.mv (at_nu w1) w2
        · have e : r = [] := List.eq_nil_of_length_eq_zero (by omega)
          subst e
          refine s_X6_readsSum_12 (by omega) u _ _ (fun _ => K _ _ ⟨fo.rfl', rfl, by show cS T u [] (code ++ []); rw [List.append_nil]; exact hu⟩) (fun z => absurd ((n_le 240 i).mpr (by omega)) z)
      · intro d u cs Q hd hu hl K
        exact s_X12_sum_21 (by omega) u _ (fun z => absurd z n1) (fun _ _ => K u ⟨rfl, fo.rfl', by show mLs T n0 u (sg r) m (cs ++ []); rw [List.append_nil]; exact hu⟩) (fun _ z => absurd n2 z)
theorem nt_sum {T : List Nat} (hT : tkOk T) {n0 m : Nat} (hn0 : n0 ≤ 4) (hm : m ≤ 6) {r : List Nat} (hr : ∀ c ∈ r, c ≤ 255) (IH : ∀ t, t.length ≤ r.length → (∀ c ∈ t, c ≤ 255) → Tm T n0 m t) : Sm T n0 m r := by
  obtain ⟨R1, p1, c1, m1⟩ := IH r (Nat.le_refl _) hr
  cases R1 with
  | inl n =>
    refine ⟨Sum.inl n, p1, fun d u code hd hu hl => ?_, fun d u cs hd hu hl => ?_⟩
    · obtain ⟨d, rfl⟩ : ∃ e, d = e + 1 := ⟨d - 1, by omega⟩
      refine ax_Ct.of (lv := [some (ax_r 3), some (ax_i (nI m)), none, none]) (by decide +kernel) (fun ad => Nat.le_of_ble_eq_true rfl) (fun ad => rfl) ?_
      refine s_X6_readsSum_0 (by omega) u _ ?_
      refine (c1 d u code (by omega) hu hl).mono ?_
      rintro y w ⟨w1, w2, w3⟩
      exact ⟨_, w2, s_X6_readsSum_5 (by omega) w _ _ (fun z => absurd rfl z) (fun _ => ⟨w1, rfl, w3⟩)⟩
    · obtain ⟨d, rfl⟩ : ∃ e, d = e + 1 := ⟨d - 1, by omega⟩
      refine ax_Ct.of (lv := [some (ax_r 0), none]) (by decide +kernel) (fun ad => Nat.le_of_ble_eq_true rfl) (fun ad => rfl) ?_
      refine s_X12_sum_0 (by omega) u ?_
      refine (m1 d u cs (by omega) hu hl).mono ?_
      rintro y w ⟨rfl, w1, w2⟩
      refine ⟨rfl, s_X12_sum_4 (by omega) w (fun _ => ?_) (fun z => absurd w2.2.1 z)⟩
      exact s_X12_sum_21 (by omega) w _ (fun z => absurd z (by decide)) (fun _ _ => ⟨rfl, w1, w2.le (by omega)⟩) (fun _ z => absurd (show ¬ (-1 : Int32) = 45 by decide) z)
  | inr q =>
    obtain ⟨q1, q2, q4, q3⟩ := p1
    obtain ⟨R2, p2, c2, m2⟩ := lp_sum hT hn0 hm q.2.length q.2 (Nat.le_refl _) (fun c hc => hr c (q4 c hc)) (fun t ht => IH t (by omega))
    have cls : ∀ d u code (Q : Option ax_V → ax_S → Prop), 4 + 1 + 4 * (6 - m) ≤ d → cS T u r code → code.length + r.length ≤ 240 → (∀ y w v, fo lrS v u → cQ T v (code ++ lw_e q.1) R2 y w → Q y w) → ax_Ct shC d mX6_readsSum [ax_r 3, ax_i (nI m)] Q u := by
      intro d u code Q hd hu hl K
      obtain ⟨d, rfl⟩ : ∃ e, d = e + 1 := ⟨d - 1, by omega⟩
      refine ax_Ct.of (lv := [some (ax_r 3), some (ax_i (nI m)), none, none]) (by decide +kernel) (fun ad => Nat.le_of_ble_eq_true rfl) (fun ad => rfl) ?_
      refine s_X6_readsSum_0 (by omega) u _ ?_
      refine (c1 d u code (by omega) hu hl).mono ?_
      rintro y w ⟨w1, w2, w3⟩
      refine ⟨_, w2, s_X6_readsSum_5 (by omega) w _ _ (fun _ => ?_) (fun z => absurd (show ¬ (1 : Int32) = 0 by decide) z)⟩
      exact c2 d w _ 0 Q (by omega) w3 (by rw [List.length_append, lw_e_len]; omega) (by omega) (fun y x hx => K y x w w1 hx)
    have ref : ∀ d u cs (Q : Option ax_V → ax_S → Prop), 4 + 1 + 4 * (6 - m) ≤ d → mLs T n0 u r m cs → cs.length + r.length ≤ 240 → (∀ v w, fo (lmF n0) v u → mQ T n0 v m (cs ++ q.1) (cs.length + r.length + (8 * (6 - m) + 2)) R2 none w → Q none w) → ax_Ct shM d mX12_sum [ax_r 0] Q u := by
      intro d u cs Q hd hu hl K
      obtain ⟨d, rfl⟩ : ∃ e, d = e + 1 := ⟨d - 1, by omega⟩
      refine ax_Ct.of (lv := [some (ax_r 0), none]) (by decide +kernel) (fun ad => Nat.le_of_ble_eq_true rfl) (fun ad => rfl) ?_
      refine s_X12_sum_0 (by omega) u ?_
      refine (m1 d u cs (by omega) hu hl).mono ?_
      rintro y w ⟨rfl, w1, w2⟩
      have hlen : (cs ++ q.1).length = cs.length + q.1.length := List.length_append
      refine ⟨rfl, s_X12_sum_4 (by omega) w (fun z => absurd w2.2.1 z) (fun _ => ?_)⟩
      refine (ct_X12_look (by omega) hT w2.1).mono ?_
      rintro y v ⟨rfl, v1, v2⟩
      refine ⟨_, rfl, s_X12_sum_16 (by omega) v _ (m2 d v _ Q (by omega) (w2.mv v1 v2) (by omega) (fun x hx => K v x ((at_lm v1).trans w1) ?_))⟩
      cases R2 with
      | inl n => exact ⟨hx.1, hx.2.1, hx.2.2.le (by omega)⟩
      | inr q2 => exact hx
    cases R2 with
    | inl n =>
      refine ⟨Sum.inl n, by have : n ≤ q.2.length := p2
                            show n ≤ r.length; omega, fun d u code hd hu hl => ?_, fun d u cs hd hu hl => ?_⟩
      · exact cls d u code _ (by omega) hu hl (fun y w v hv hw => ⟨hw.1.trans hv, hw.2⟩)
      · exact ref d u cs _ (by omega) hu hl (fun v w hv hw => ⟨rfl, hw.2.1.trans hv, hw.2.2.le (by omega)⟩)
    | inr s =>
      obtain ⟨s1, s2, s4, s3⟩ := p2
      refine ⟨Sum.inr (q.1 ++ s.1, s.2), ⟨?_, ?_, fun c hc => q4 c (s4 c hc), fun k hk => ?_⟩, fun d u code hd hu hl => ?_, fun d u cs hd hu hl => ?_⟩
      · show (q.1 ++ s.1).length + s.2.length ≤ r.length
        rw [List.length_append]; omega
      · show s.2.length + 1 ≤ r.length; omega
      · exact le_ok_app (q3 k (by omega)) (s3 k (by omega))
      · refine cls d u code _ (by omega) hu hl (fun y w v hv hw => ⟨hw.1.trans hv, hw.2.1, ?_⟩)
        show cS T w s.2 (code ++ lw_e (q.1 ++ s.1))
        rw [lw_e_app, ← List.append_assoc]; exact hw.2.2
      · refine ref d u cs _ (by omega) hu hl (fun v w hv hw => ⟨rfl, hw.2.1.trans hv, ?_⟩)
        show mLs T n0 w s.2 m (cs ++ (q.1 ++ s.1))
        rw [← List.append_assoc]; exact hw.2.2
