/-! ===== a comparison, a unit ===== -/
def cmp : List Nat → Nat
  | [] => 0
  | c :: _ => if c = 60 then 7 else if c = 61 then 6 else if c = 62 then 8 else 0
theorem cmp_b (s : List Nat) : cmp s = 0 ∨ (6 ≤ cmp s ∧ cmp s ≤ 8) := by
  cases s with
  | nil => exact Or.inl rfl
  | cons c t =>
    show (if c = 60 then 7 else if c = 61 then 6 else if c = 62 then 8 else 0) = 0 ∨ (6 ≤ (if c = 60 then 7 else if c = 61 then 6 else if c = 62 then 8 else 0) ∧ (if c = 60 then 7 else if c = 61 then 6 else if c = 62 then 8 else 0) ≤ 8)
    repeat' split
    all_goals omega
theorem cmp_n0 {s : List Nat} (h : ¬ cmp s = 0) : ∃ c t, s = c :: t := by
  cases s with
  | nil => exact absurd rfl h
  | cons c t => exact ⟨c, t, rfl⟩
theorem ct_X6_comparison {d : Nat} (hd : 2 ≤ d) {T : List Nat} (hT : tkOk T) {u : ax_S} {r : List Nat} (h : cT T u r) :
    ax_Ct shC d mX6_comparison [ax_r 3] (fun y w => y = some (ax_i (if cmp (sg r) = 0 then -1 else nI (cmp (sg r)))) ∧ fo atS w u ∧ cT T w (sg r)) u := by
  obtain ⟨d, rfl⟩ : ∃ e, d = e + 1 := ⟨d - 1, by omega⟩
  refine ax_Ct.of (lv := [some (ax_r 3)]) (by decide +kernel) (fun ad => Nat.le_of_ble_eq_true rfl) (fun ad => rfl) ?_
  refine s_X6_comparison_0 (by omega) u ?_
  refine (ct_X9_sign (by omega) hT h).mono ?_
  rintro y w ⟨rfl, w1, w2⟩
  have hs : ∀ c ∈ sg r, c ≤ 255 := fun c hc => ((w2.le hT).2 c hc).2
  refine ⟨_, rfl, ?_⟩
  generalize sg r = s at *
  cases s with
  | nil => exact s_X6_comparison_7 (by omega) w _ (fun z => absurd z (by decide)) (fun _ z => absurd z (by decide)) (fun _ _ z => absurd z (by decide)) (fun _ _ _ => ⟨rfl, w1, w2⟩)
  | cons c t =>
    have hc := hs c List.mem_cons_self
    have k60 : (nI c = (60 : Int32)) ↔ c = 60 := n_eq c 60
    have k61 : (nI c = (61 : Int32)) ↔ c = 61 := n_eq c 61
    have k62 : (nI c = (62 : Int32)) ↔ c = 62 := n_eq c 62
    refine s_X6_comparison_7 (by omega) w _ (fun z => ⟨?_, w1, w2⟩) (fun z1 z => ⟨?_, w1, w2⟩) (fun z1 z2 z => ⟨?_, w1, w2⟩) (fun z1 z2 z3 => ⟨?_, w1, w2⟩)
    · have e := k60.mp z; subst e; rfl
    · have e := k61.mp z; subst e; rfl
    · have e := k62.mp z; subst e; rfl
    · have e1 : ¬ c = 60 := fun y => z1 (k60.mpr y)
      have e2 : ¬ c = 61 := fun y => z2 (k61.mpr y)
      have e3 : ¬ c = 62 := fun y => z3 (k62.mpr y)
      have : cmp (c :: t) = 0 := by rw [cmp, if_neg e1, if_neg e2, if_neg e3]
      rw [this]; rfl
theorem cmp_M {s : List Nat} (hs : ∀ c ∈ s, c ≤ 255) : ((hdI s = (61 : Int32)) ∨ ((hdI s = (60 : Int32)) ∨ (¬ (¬ hdI s = (62 : Int32))))) ↔ ¬ cmp s = 0 := by
  cases s with
  | nil => exact ⟨fun z => by rcases z with z | z | z
                              · exact absurd z (by decide)
                              · exact absurd z (by decide)
                              · exact absurd (Classical.not_not.mp z) (by decide), fun z => absurd rfl z⟩
  | cons c t =>
    have hc := hs c List.mem_cons_self
    have k60 : (nI c = (60 : Int32)) ↔ c = 60 := n_eq c 60
    have k61 : (nI c = (61 : Int32)) ↔ c = 61 := n_eq c 61
    have k62 : (nI c = (62 : Int32)) ↔ c = 62 := n_eq c 62
    show ((nI c = (61 : Int32)) ∨ ((nI c = (60 : Int32)) ∨ (¬ (¬ nI c = (62 : Int32))))) ↔ _
    rw [Classical.not_not, k60, k61, k62, cmp]
    by_cases h1 : c = 60
    · rw [if_pos h1]; exact ⟨fun _ => by omega, fun _ => Or.inr (Or.inl h1)⟩
    rw [if_neg h1]
    by_cases h2 : c = 61
    · rw [if_pos h2]; exact ⟨fun _ => by omega, fun _ => Or.inl h2⟩
    rw [if_neg h2]
    by_cases h3 : c = 62
    · rw [if_pos h3]; exact ⟨fun _ => by omega, fun _ => Or.inr (Or.inr h3)⟩
    rw [if_neg h3]
    exact ⟨fun z => absurd z (by rintro (z | z | z) <;> contradiction), fun z => absurd rfl z⟩
theorem cmp_code {s : List Nat} (hs : ∀ c ∈ s, c ≤ 255) (h : ¬ cmp s = 0) : (if (¬ hdI s = (61 : Int32)) then (if (¬ hdI s = (60 : Int32)) then (8 : Int32) else (7 : Int32)) else (6 : Int32)) = nI (cmp s) := by
  cases s with
  | nil => exact absurd rfl h
  | cons c t =>
    have hc := hs c List.mem_cons_self
    have k60 : (nI c = (60 : Int32)) ↔ c = 60 := n_eq c 60
    have k61 : (nI c = (61 : Int32)) ↔ c = 61 := n_eq c 61
    show (if (¬ nI c = (61 : Int32)) then (if (¬ nI c = (60 : Int32)) then (8 : Int32) else (7 : Int32)) else (6 : Int32)) = nI (cmp (c :: t))
    rw [cmp] at h ⊢
    by_cases h1 : c = 60
    · rw [if_pos (fun z => by have := k61.mp z; omega), if_neg (not_not_intro (k60.mpr h1)), if_pos h1]; rfl
    rw [if_neg h1] at h ⊢
    by_cases h2 : c = 61
    · rw [if_neg (not_not_intro (k61.mpr h2)), if_pos h2]; rfl
    rw [if_neg h2] at h ⊢
    by_cases h3 : c = 62
    · rw [if_pos (fun z => h2 (k61.mp z)), if_pos (fun z => h1 (k60.mp z)), if_pos h3]; rfl
    rw [if_neg h3] at h
    exact absurd rfl h
def Km (T : List Nat) (n0 m : Nat) (r : List Nat) : Prop := ∃ R : rR, PR [false] [true] (8 * m + 2) 1 r R ∧
    (∀ d u code (Q : Option ax_V → ax_S → Prop), 7 + 5 * (6 - m) ≤ d → cS T u r code → code.length + r.length ≤ 240 → (∀ y w, cQ T u code R y w → Q y w) → ax_Ct shC d mX6_comparison [ax_r 3] (fun y w => ∃ x : Int32, y = some (ax_i x) ∧ ax_W shC (d + 1) mX6_readsUnit Q 45 [some (ax_r 3), some (ax_i (nI m)), none, none] (ax_i x :: []) w) u) ∧
    NM mX12_compare (7 + 5 * (6 - m)) (8 * (6 - m) + 3) T n0 m r R
theorem nt_cmp {T : List Nat} (hT : tkOk T) {n0 m : Nat} (hn0 : n0 ≤ 4) (hm : m ≤ 6) {r : List Nat} (hr : ∀ c ∈ r, c ≤ 255) : Km T n0 m r := by
  have hsl := sg_len r
  have hs := sg_le hr
  have hM := cmp_M hs
  by_cases a : cmp (sg r) = 0
  · refine ⟨Sum.inl (sg r).length, hsl, fun d u code Q hd hu hl K => ?_, fun d u cs hd hu hl => ?_⟩
    · refine (ct_X6_comparison (by omega) hT hu.1).mono ?_
      rintro y w ⟨rfl, w1, w2⟩
      rw [if_pos a]
      exact ⟨_, rfl, s_X6_readsUnit_45 (by omega) w _ _ (fun z => absurd rfl z) (fun _ => K _ _ ⟨nu_lr (at_nu w1), rfl, w2.at⟩)⟩
    · obtain ⟨d, rfl⟩ : ∃ e, d = e + 1 := ⟨d - 1, by omega⟩
      refine ax_Ct.of (lv := [some (ax_r 0), none]) (by decide +kernel) (fun ad => Nat.le_of_ble_eq_true rfl) (fun ad => rfl) ?_
      refine s_X12_compare_0 (by omega) u (fun z => absurd hu.2.1 z) (fun z => absurd hu.2.1 z) (fun _ => ?_)
      refine (ct_X12_look (by omega) hT hu.1).mono ?_
      rintro y w ⟨rfl, w1, w2⟩
      have hw := hu.mv w1 w2
      obtain ⟨k1, k2, k3⟩ := hw.bad hT (B := cs.length + r.length + (8 * (6 - m) + 3)) (by omega)
      refine ⟨_, rfl, s_X12_compare_12 (by omega) w _ (fun z => absurd a (hM.mp z)) (fun _ => ?_)⟩
      rw [k1]; exact ⟨rfl, k3.trans (at_lm w1), k2⟩
  · obtain ⟨c, t, ht⟩ := cmp_n0 a
    have htl : t.length + 1 ≤ r.length := by rw [ht] at hsl; exact hsl
    have hts : ∀ c ∈ t, c ≤ 255 := fun c hc => hs c (by rw [ht]; exact List.mem_cons_of_mem _ hc)
    have hcb : 6 ≤ cmp (sg r) ∧ cmp (sg r) ≤ 8 := (cmp_b (sg r)).resolve_left a
    have hcode := cmp_code hs a
    obtain ⟨R1, p1, c1, m1⟩ := sum_all hT hn0 t.length t (Nat.le_refl _) hts m hm
    have cst : ∀ d u code (Q : Option ax_V → ax_S → Prop), 7 + 5 * (6 - m) ≤ d → cS T u r code → code.length + r.length ≤ 240 → (∀ y w, cQ T u code R1 y w → ∃ x : Int32, y = some (ax_i x) ∧ ax_W shC (d + 1) mX6_readsUnit Q 71 [some (ax_r 3), none, none, some (ax_i (nI (cmp (sg r))))] (ax_i x :: []) w) → ax_Ct shC d mX6_comparison [ax_r 3] (fun y w => ∃ x : Int32, y = some (ax_i x) ∧ ax_W shC (d + 1) mX6_readsUnit Q 45 [some (ax_r 3), some (ax_i (nI m)), none, none] (ax_i x :: []) w) u := by
      intro d u code Q hd hu hl K
      refine (ct_X6_comparison (by omega) hT hu.1).mono ?_
      rintro y w ⟨rfl, w1, w2⟩
      rw [if_neg a]
      have hw := hu.mv (at_nu w1) w2
      rw [ht] at hw
      obtain ⟨n1, n2⟩ := hw.next hT
      refine ⟨_, rfl, s_X6_readsUnit_45 (by omega) w _ _ (fun _ => ?_) (fun z => absurd (n_m1 (cmp (sg r))) z)⟩
      exact (c1 d _ code (by omega) n1 (by omega)).mono (fun y v hv => K y v ⟨hv.1.trans (n2.trans (nu_lr (at_nu w1))), hv.2⟩)
    have mst : ∀ d u cs (Q : Option ax_V → ax_S → Prop), 7 + 5 * (6 - m) ≤ d + 1 → mLs T n0 u r m cs → cs.length + r.length ≤ 240 → (∀ w, mQ T n0 u m cs (cs.length + t.length + (8 * (6 - m) + 2)) R1 none w → ax_W shM (d + 1) mX12_compare Q 43 [some (ax_r 0), some (ax_i (hdI (sg r)))] [] w) → ax_Ct shM (d + 1) mX12_compare [ax_r 0] Q u := by
      intro d u cs Q hd hu hl K
      refine ax_Ct.of (lv := [some (ax_r 0), none]) (by decide +kernel) (fun ad => Nat.le_of_ble_eq_true rfl) (fun ad => rfl) ?_
      refine s_X12_compare_0 (by omega) u (fun z => absurd hu.2.1 z) (fun z => absurd hu.2.1 z) (fun _ => ?_)
      refine (ct_X12_look (by omega) hT hu.1).mono ?_
      rintro y w ⟨rfl, w1, w2⟩
      have hw := hu.mv w1 w2
      rw [ht] at hw
      obtain ⟨n1, n2⟩ := hw.next hT
      refine ⟨_, rfl, s_X12_compare_12 (by omega) w _ (fun _ => ?_) (fun z => absurd (hM.mpr a) z)⟩
      exact (m1 d _ cs (by omega) n1 (by omega)).mono (fun y v hv => ⟨hv.1, K v ⟨rfl, hv.2.1.trans (n2.trans (at_lm w1)), hv.2.2⟩⟩)
    cases R1 with
    | inl n =>
      refine ⟨Sum.inl n, by have : n ≤ t.length := p1
                            show n ≤ r.length; omega, fun d u code Q hd hu hl K => ?_, fun d u cs hd hu hl => ?_⟩
      · exact cst d u code Q hd hu hl (fun y w hw => ⟨_, hw.2.1, s_X6_readsUnit_71 (by omega) w _ _ (fun z => absurd rfl z) (fun _ => K _ _ ⟨hw.1, rfl, hw.2.2⟩)⟩)
      · obtain ⟨d, rfl⟩ : ∃ e, d = e + 1 := ⟨d - 1, by omega⟩
        refine mst d u cs _ hd hu hl (fun w hw => ?_)
        obtain ⟨-, f1, e1⟩ := hw
        obtain ⟨cs', hP, hcs⟩ := e1.2.2
        obtain ⟨i1, i2⟩ := put_in hP hn0 (by omega)
        have e2 := (e1.le (B' := cs.length + r.length + (8 * (6 - m) + 3)) (by omega)).put hP (by omega) (cmp (sg r)) 0
        refine s_X12_compare_43 (by omega) w _ i1 i2 ?_
        rw [hcode, put_eq hP hn0 (by omega)]
        exact ⟨rfl, (pu_fo _ _ _ _ _).trans f1, e2⟩
    | inr q =>
      obtain ⟨q1, q2, q4, q3⟩ := p1
      refine ⟨Sum.inr (q.1 ++ [(cmp (sg r), 0)], q.2), ⟨?_, ?_, fun c hc => sg_sub (by rw [ht]; exact List.mem_cons_of_mem _ (q4 c hc)), fun k hk => ?_⟩, fun d u code Q hd hu hl K => ?_, fun d u cs hd hu hl => ?_⟩
      · show (q.1 ++ [(cmp (sg r), 0)]).length + q.2.length ≤ r.length
        rw [List.length_append]
        have : [(cmp (sg r), 0)].length = 1 := rfl
        omega
      · show q.2.length + 1 ≤ r.length; omega
      · refine le_ok_app (q3 (false :: k) (by rw [List.length_cons]; omega)) ?_
        exact Or.inr (Or.inr (Or.inr (Or.inr (Or.inl ⟨hcb.1, hcb.2, rfl, k, rfl, rfl⟩))))
      · refine cst d u code Q hd hu hl (fun y w hw => ⟨_, hw.2.1, s_X6_readsUnit_71 (by omega) w _ _ (fun _ => ?_) (fun z => absurd (show ¬ (1 : Int32) = 0 by decide) z)⟩)
        have hw2 := hw.2.2
        have hlen : (code ++ lw_e q.1).length = code.length + q.1.length := by rw [List.length_append, lw_e_len]
        refine (ct_X6_put (by omega) hw2 (by omega) (a := cmp (sg r)) (by omega) (v := 0) (by omega)).mono ?_
        rintro y v ⟨rfl, v1, v2⟩
        refine ⟨rfl, s_X6_readsUnit_82 (by omega) v (K _ _ ⟨v1.trans hw.1, rfl, ?_⟩)⟩
        show cS T v q.2 (code ++ lw_e (q.1 ++ [(cmp (sg r), 0)]))
        rw [lw_e_app, ← List.append_assoc]; exact v2
      · obtain ⟨d, rfl⟩ : ∃ e, d = e + 1 := ⟨d - 1, by omega⟩
        refine mst d u cs _ hd hu hl (fun w hw => ?_)
        obtain ⟨-, f1, e1⟩ := hw
        have hlen : (cs ++ q.1).length = cs.length + q.1.length := List.length_append
        obtain ⟨i1, i2⟩ := put_in e1.2.2.2 hn0 (by omega)
        refine s_X12_compare_43 (by omega) w _ i1 i2 ?_
        rw [hcode, put_eq e1.2.2.2 hn0 (by omega)]
        refine ⟨rfl, (pu_fo _ _ _ _ _).trans f1, ?_⟩
        show mLs T n0 _ q.2 m (cs ++ (q.1 ++ [(cmp (sg r), 0)]))
        rw [← List.append_assoc]; exact e1.put _ 0
/-- opens() as a contract -/
theorem ct_opens {d : Nat} (hd : 2 ≤ d) {T : List Nat} {w : ax_S} {r : List Nat} {n0 m : Nat} {cs : List (Nat × Nat)} (h : mLs T n0 w r m cs) (hm : m < 6) : ax_Ct shM d mX12_opens [ax_r 0] (fun y v => y = none ∧ v = ax_ui (ax_ui w 0 5 (w.1 0 5 + 1)) 0 3 (w.1 0 3 + 1)) w := by
  obtain ⟨d, rfl⟩ : ∃ e, d = e + 1 := ⟨d - 1, by omega⟩
  have g5 : ¬ w.1 0 5 = (6 : Int32) := by rw [h.2.2.1]; exact fun z => absurd ((n_eq m 6).mp z) (by omega)
  refine ax_Ct.of (lv := [some (ax_r 0)]) (by decide +kernel) (fun ad => Nat.le_of_ble_eq_true rfl) (fun ad => rfl) ?_
  exact s_X12_opens_0 (by omega) w (fun _ => ⟨rfl, rfl⟩) (fun z => absurd g5 z)
theorem ct_opens6 {d : Nat} (hd : 2 ≤ d) {T : List Nat} (hT : tkOk T) {w : ax_S} {r : List Nat} {n0 : Nat} {cs : List (Nat × Nat)} (h : mLs T n0 w r 6 cs) {B : Nat} (hB : cs.length ≤ B) : ax_Ct shM d mX12_opens [ax_r 0] (fun y v => y = none ∧ fo (lmF n0) v w ∧ mE T n0 r.length B v) w := by
  obtain ⟨d, rfl⟩ : ∃ e, d = e + 1 := ⟨d - 1, by omega⟩
  have g5 : w.1 0 5 = (6 : Int32) := h.2.2.1
  obtain ⟨k1, k2, k3⟩ := h.bad hT hB
  refine ax_Ct.of (lv := [some (ax_r 0)]) (by decide +kernel) (fun ad => Nat.le_of_ble_eq_true rfl) (fun ad => rfl) ?_
  refine s_X12_opens_0 (by omega) w (fun z => absurd g5 z) (fun _ => ?_)
  rw [k1]
  have fx : fo (fun c i => c = 0 ∧ (i = 3 ∨ i = 5)) (ax_ui (ax_ui (ax_ui w 0 4 (nI (T.length - r.length))) 0 5 (w.1 0 5 + 1)) 0 3 (w.1 0 3 + 1)) (ax_ui w 0 4 (nI (T.length - r.length))) := (fo.rfl'.ui (by omega)).ui (by omega)
  exact ⟨rfl, (fx.mono (fun c i z => by unfold lmF; omega)).trans k3, k2.w fx⟩
theorem nt_unit {T : List Nat} (hT : tkOk T) {n0 m : Nat} (hn0 : n0 ≤ 4) (hm : m ≤ 6) {r : List Nat} (hr : ∀ c ∈ r, c ≤ 255) (IH : m < 6 → ∀ t, t.length < r.length → (∀ c ∈ t, c ≤ 255) → Um T n0 (m + 1) t ∧ Cm T n0 (m + 1) t) : Um T n0 m r := by
  have hsl := sg_len r
  have hss := sg_sg r
  have hs := sg_le hr
  have k33 := hdI_eq (r := sg r) (x := 33) hs (by omega)
  have k40 := hdI_eq (r := sg r) (x := 40) hs (by omega)
  have cls : ∀ (R : rR), (∀ d w code u, 7 + 5 * (6 - m) ≤ d → cS T w (sg r) code → fo lrS w u → code.length + r.length ≤ 240 → ax_W shC (d + 1) mX6_readsUnit (cQ T u code R) 11 [some (ax_r 3), some (ax_i (nI m)), none, none] [ax_i (hdI (sg r))] w) → NC mX6_readsUnit [ax_r 3, ax_i (nI m), ax_i 0] (8 + 5 * (6 - m)) T r R := by
    intro R K d u code hd hu hl
    obtain ⟨d, rfl⟩ : ∃ e, d = e + 1 := ⟨d - 1, by omega⟩
    refine ax_Ct.of (lv := [some (ax_r 3), some (ax_i (nI m)), some (ax_i 0), none]) (by decide +kernel) (fun ad => Nat.le_of_ble_eq_true rfl) (fun ad => rfl) ?_
    refine s_X6_readsUnit_0 (by omega) u _ _ (fun z => absurd rfl z) (fun _ => ?_)
    refine (ct_X9_sign (by omega) hT hu.1).mono ?_
    rintro y w ⟨rfl, w1, w2⟩
    exact ⟨_, rfl, K d w code u (by omega) (hu.mv (at_nu w1) w2) (nu_lr (at_nu w1)) hl⟩
  have ref : ∀ (R : rR), (∀ d w cs u, 7 + 5 * (6 - m) ≤ d → mLs T n0 w (sg r) m cs → fo (lmF n0) w u → cs.length + r.length ≤ 240 → ax_W shM (d + 1) mX12_unit (mQ T n0 u m cs (cs.length + r.length + (8 * (6 - m) + 4)) R) 4 [some (ax_r 0), none] [ax_i (hdI (sg r))] w) → NM mX12_unit (8 + 5 * (6 - m)) (8 * (6 - m) + 4) T n0 m r R := by
    intro R K d u cs hd hu hl
    obtain ⟨d, rfl⟩ : ∃ e, d = e + 1 := ⟨d - 1, by omega⟩
    refine ax_Ct.of (lv := [some (ax_r 0), none]) (by decide +kernel) (fun ad => Nat.le_of_ble_eq_true rfl) (fun ad => rfl) ?_
    refine s_X12_unit_0 (by omega) u ?_
    refine (ct_X12_look (by omega) hT hu.1).mono ?_
    rintro y w ⟨rfl, w1, w2⟩
    exact ⟨_, rfl, K d w cs u (by omega) (hu.mv w1 w2) (at_lm w1) hl⟩
  by_cases a : ∃ t, sg r = 33 :: t
  · -- not
    have e33 : hdI (sg r) = (33 : Int32) := k33.mpr a
    obtain ⟨t, ht⟩ := a
    have htl : t.length + 1 ≤ r.length := by rw [ht] at hsl; exact hsl
    have hts : ∀ c ∈ t, c ≤ 255 := fun c hc => hs c (by rw [ht]; exact List.mem_cons_of_mem _ hc)
    have n40 : ¬ hdI (sg r) = (40 : Int32) := by rw [e33]; decide
    have cgo : ∀ d w code u (R : rR), 7 + 5 * (6 - m) ≤ d + 1 → ax_W shC (d + 1) mX6_readsNested (fun y v => cQ T u code R y v) 0 [some (ax_r 3), some (ax_i (nI m)), some (ax_i (hdI (sg r)))] [] w → ax_W shC (d + 1 + 1) mX6_readsUnit (cQ T u code R) 11 [some (ax_r 3), some (ax_i (nI m)), none, none] [ax_i (hdI (sg r))] w := by
      intro d w code u R hd K
      refine s_X6_readsUnit_11 (by omega) w _ _ (fun _ => ?_) (fun z => absurd e33 z) (fun z => absurd e33 z)
      refine ax_Ct.mono (Q1 := cQ T u code R) ?_ ?_
      · refine ax_Ct.of (lv := [some (ax_r 3), some (ax_i (nI m)), some (ax_i (hdI (sg r)))]) (by decide +kernel) (fun ad => Nat.le_of_ble_eq_true rfl) (fun ad => rfl) ?_
        exact K
      · intro y v hv
        cases R with
        | inl n => exact ⟨_, hv.2.1, s_X6_readsUnit_30 (by omega) v _ ⟨hv.1, rfl, hv.2.2⟩ (Or.inl rfl)⟩
        | inr q => exact ⟨_, hv.2.1, s_X6_readsUnit_30 (by omega) v _ ⟨hv.1, rfl, hv.2.2⟩ (Or.inr rfl)⟩
    by_cases b : m < 6
    · obtain ⟨⟨R1, p1, c1, m1⟩, -⟩ := IH b t (by omega) hts
      have mgo : ∀ d w cs u (Q : Option ax_V → ax_S → Prop), 7 + 5 * (6 - m) ≤ d → mLs T n0 w (sg r) m cs → fo (lmF n0) w u → cs.length + r.length ≤ 240 → (∀ v, mQ T n0 u (m + 1) cs (cs.length + t.length + (8 * (6 - (m + 1)) + 4)) R1 none v → ax_W shM (d + 1) mX12_unit Q 27 [some (ax_r 0), none] [] v) → ax_W shM (d + 1) mX12_unit Q 4 [some (ax_r 0), none] [ax_i (hdI (sg r))] w := by
        intro d w cs u Q hd hw hf hl K
        refine s_X12_unit_4 (by omega) w _ (fun z => absurd e33 z) (fun z => absurd e33 z) (fun _ => ?_)
        refine (ct_opens (by omega) hw b).mono ?_
        rintro y v ⟨rfl, rfl⟩
        rw [ht] at hw
        have ho := mopen hT hw
        refine ⟨rfl, s_X12_unit_15 (by omega) _ (fun z => absurd ho.1.2.1 z) (fun _ => ?_)⟩
        exact (m1 d _ cs (by omega) ho.1 (by omega)).mono (fun y v hv => ⟨hv.1, K v ⟨rfl, hv.2.1.trans (ho.2.trans hf), hv.2.2⟩⟩)
      cases R1 with
      | inl n =>
        refine ⟨Sum.inl n, by have : n ≤ t.length := p1
                              show n ≤ r.length; omega, cls _ (fun d w code u hd hw hf hl => ?_), ref _ (fun d w cs u hd hw hf hl => ?_)⟩
        · obtain ⟨d, rfl⟩ : ∃ e, d = e + 1 := ⟨d - 1, by omega⟩
          refine cgo d w code u _ (by omega) ?_
          rw [ht] at hw
          obtain ⟨n1, n2⟩ := hw.next hT
          refine s_X6_readsNested_0 (by omega) w _ _ (fun _ _ => ?_) (fun _ z => absurd n40 z) (fun z => absurd ((n_lt m 6).mpr b) z)
          rw [nI_1]
          refine (c1 d _ code (by omega) n1 (by omega)).mono ?_
          rintro y v ⟨v1, v2, v3⟩
          exact ⟨_, v2, s_X6_readsNested_64 (by omega) v _ (fun z => absurd rfl z) (fun _ => ⟨v1.trans (n2.trans hf), rfl, v3⟩)⟩
        · refine mgo d w cs u _ hd hw hf hl (fun v hv => ?_)
          obtain ⟨-, f1, e1⟩ := hv
          obtain ⟨cs', hP, hcs⟩ := e1.2.2
          obtain ⟨i1, i2⟩ := put_in hP hn0 (by omega)
          have e2 := (e1.le (B' := cs.length + r.length + (8 * (6 - m) + 4)) (by omega)).put hP (by omega) 9 0
          refine s_X12_unit_27 (by omega) v i1 i2 ?_
          rw [put_eq hP hn0 (by omega)]
          have fx : fo (fun c i => c = 0 ∧ (i = 3 ∨ i = 5)) (ax_ui (pu v n0 cs'.length (nI 9) (nI 0)) 0 5 (v.1 0 5 - 1)) (pu v n0 cs'.length (nI 9) (nI 0)) := fo.rfl'.ui (by omega)
          exact ⟨rfl, (fx.mono (fun c i z => by unfold lmF; omega)).trans ((pu_fo _ _ _ _ _).trans f1), e2.w fx⟩
      | inr q =>
        obtain ⟨q1, q2, q4, q3⟩ := p1
        refine ⟨Sum.inr (q.1 ++ [(9, 0)], q.2), ⟨?_, ?_, fun c hc => sg_sub (by rw [ht]; exact List.mem_cons_of_mem _ (q4 c hc)), fun k hk => ?_⟩, cls _ (fun d w code u hd hw hf hl => ?_), ref _ (fun d w cs u hd hw hf hl => ?_)⟩
        · show (q.1 ++ [(9, 0)]).length + q.2.length ≤ r.length
          rw [List.length_append]
          have : [(9, 0)].length = 1 := rfl
          omega
        · show q.2.length + 1 ≤ r.length; omega
        · exact le_ok_app (q3 k (by omega)) (Or.inr (Or.inr (Or.inl ⟨rfl, rfl, k, rfl, rfl⟩)))
        · obtain ⟨d, rfl⟩ : ∃ e, d = e + 1 := ⟨d - 1, by omega⟩
          refine cgo d w code u _ (by omega) ?_
          rw [ht] at hw
          obtain ⟨n1, n2⟩ := hw.next hT
          refine s_X6_readsNested_0 (by omega) w _ _ (fun _ _ => ?_) (fun _ z => absurd n40 z) (fun z => absurd ((n_lt m 6).mpr b) z)
          rw [nI_1]
          refine (c1 d _ code (by omega) n1 (by omega)).mono ?_
          rintro y v ⟨v1, v2, v3⟩
          refine ⟨_, v2, s_X6_readsNested_64 (by omega) v _ (fun _ => ?_) (fun z => absurd (show ¬ (1 : Int32) = 0 by decide) z)⟩
          have hlen : (code ++ lw_e q.1).length = code.length + q.1.length := by rw [List.length_append, lw_e_len]
          refine (ct_X6_put (by omega) v3 (by omega) (a := 9) (by omega) (v := 0) (by omega)).mono ?_
          rintro y x ⟨rfl, x1, x2⟩
          refine ⟨rfl, s_X6_readsNested_76 (by omega) x ⟨x1.trans (v1.trans (n2.trans hf)), rfl, ?_⟩⟩
          show cS T x q.2 (code ++ lw_e (q.1 ++ [(9, 0)]))
          rw [lw_e_app, ← List.append_assoc]; exact x2
        · refine mgo d w cs u _ hd hw hf hl (fun v hv => ?_)
          obtain ⟨-, f1, e1⟩ := hv
          have hlen : (cs ++ q.1).length = cs.length + q.1.length := List.length_append
          obtain ⟨i1, i2⟩ := put_in e1.2.2.2 hn0 (by omega)
          refine s_X12_unit_27 (by omega) v i1 i2 ?_
          rw [put_eq e1.2.2.2 hn0 (by omega)]
          have e2 := e1.put 9 0
          have fx : fo (fun c i => c = 0 ∧ i = 5) (ax_ui (pu v n0 (cs ++ q.1).length (nI 9) (nI 0)) 0 5 (v.1 0 5 - 1)) (pu v n0 (cs ++ q.1).length (nI 9) (nI 0)) := fo.rfl'.ui ⟨rfl, rfl⟩
          refine ⟨rfl, (fx.mono (fun c i z => by unfold lmF; omega)).trans ((pu_fo _ _ _ _ _).trans f1), ?_⟩
          show mLs T n0 _ q.2 m (cs ++ (q.1 ++ [(9, 0)]))
          rw [← List.append_assoc]
          exact ⟨e2.1.to fx.1 (by omega), (fx.1 0 4 (by omega)).trans e2.2.1, by rw [ui_same, e1.2.2.1, show nI (m + 1) - (1 : Int32) = nI m from n_sub (m + 1) 1], e2.2.2.2.to fx.1 (by omega)⟩
    · have em : m = 6 := by omega
      subst em
      refine ⟨Sum.inl (sg r).length, hsl, cls _ (fun d w code u hd hw hf hl => ?_), ref _ (fun d w cs u hd hw hf hl => ?_)⟩
      · obtain ⟨d, rfl⟩ : ∃ e, d = e + 1 := ⟨d - 1, by omega⟩
        refine cgo d w code u _ (by omega) ?_
        exact s_X6_readsNested_0 (by omega) w _ _ (fun z => absurd ((n_lt 6 6).mp z) (by omega)) (fun z => absurd ((n_lt 6 6).mp z) (by omega)) (fun _ => ⟨hf, rfl, hw.1.at⟩)
      · refine s_X12_unit_4 (by omega) w _ (fun z => absurd e33 z) (fun z => absurd e33 z) (fun _ => ?_)
        refine (ct_opens6 (by omega) hT hw (B := cs.length + r.length + (8 * (6 - 6) + 4)) (by omega)).mono ?_
        rintro y v ⟨rfl, v1, v2⟩
        exact ⟨rfl, s_X12_unit_15 (by omega) v (fun _ => ⟨rfl, v1.trans hf, v2⟩) (fun z => absurd v2.2.1 z)⟩
  have n33 : ¬ hdI (sg r) = (33 : Int32) := fun z => a (k33.mp z)
  by_cases a2 : ∃ t, sg r = 40 :: t
  · -- a condition in brackets
    have e40 : hdI (sg r) = (40 : Int32) := k40.mpr a2
    obtain ⟨t, ht⟩ := a2
    have htl : t.length + 1 ≤ r.length := by rw [ht] at hsl; exact hsl
    have hts : ∀ c ∈ t, c ≤ 255 := fun c hc => hs c (by rw [ht]; exact List.mem_cons_of_mem _ hc)
    have cgo : ∀ d w code u (R : rR), 7 + 5 * (6 - m) ≤ d + 1 → ax_W shC (d + 1) mX6_readsNested (fun y v => cQ T u code R y v) 0 [some (ax_r 3), some (ax_i (nI m)), some (ax_i (hdI (sg r)))] [] w → ax_W shC (d + 1 + 1) mX6_readsUnit (cQ T u code R) 11 [some (ax_r 3), some (ax_i (nI m)), none, none] [ax_i (hdI (sg r))] w := by
      intro d w code u R hd K
      refine s_X6_readsUnit_11 (by omega) w _ _ (fun z => absurd z n33) (fun _ z => absurd e40 z) (fun _ _ => ?_)
      refine ax_Ct.mono (Q1 := cQ T u code R) ?_ ?_
      · refine ax_Ct.of (lv := [some (ax_r 3), some (ax_i (nI m)), some (ax_i (hdI (sg r)))]) (by decide +kernel) (fun ad => Nat.le_of_ble_eq_true rfl) (fun ad => rfl) ?_
        exact K
      · intro y v hv
        cases R with
        | inl n => exact ⟨_, hv.2.1, s_X6_readsUnit_30 (by omega) v _ ⟨hv.1, rfl, hv.2.2⟩ (Or.inl rfl)⟩
        | inr q => exact ⟨_, hv.2.1, s_X6_readsUnit_30 (by omega) v _ ⟨hv.1, rfl, hv.2.2⟩ (Or.inr rfl)⟩
    by_cases b : m < 6
    · obtain ⟨-, R1, p1, c1, m1⟩ := IH b t (by omega) hts
      have cgo2 : ∀ d w code u (Q : Option ax_V → ax_S → Prop), 6 + 5 * (6 - m) ≤ d → cS T w (sg r) code → fo lrS w u → code.length + r.length ≤ 240 → (∀ y v, cQ T u code R1 y v → ∃ x : Int32, y = some (ax_i x) ∧ ax_W shC (d + 1) mX6_readsNested Q 35 [some (ax_r 3), none, none] (ax_i x :: []) v) → ax_W shC (d + 1) mX6_readsNested Q 0 [some (ax_r 3), some (ax_i (nI m)), some (ax_i (hdI (sg r)))] [] w := by
        intro d w code u Q hd hw hf hl K
        rw [ht] at hw
        obtain ⟨n1, n2⟩ := hw.next hT
        refine s_X6_readsNested_0 (by omega) w _ _ (fun _ z => absurd e40 z) (fun _ _ => ?_) (fun z => absurd ((n_lt m 6).mpr b) z)
        rw [nI_1]
        exact (c1 d _ code (by omega) n1 (by omega)).mono (fun y v hv => K y v ⟨hv.1.trans (n2.trans hf), hv.2⟩)
      have mgo : ∀ d w cs u (Q : Option ax_V → ax_S → Prop), 7 + 5 * (6 - m) ≤ d → mLs T n0 w (sg r) m cs → fo (lmF n0) w u → cs.length + r.length ≤ 240 → (∀ v, mQ T n0 u (m + 1) cs (cs.length + t.length + (8 * (6 - (m + 1)) + 6)) R1 none v → ax_W shM (d + 1) mX12_unit Q 69 [some (ax_r 0), none] [] v) → ax_W shM (d + 1) mX12_unit Q 4 [some (ax_r 0), none] [ax_i (hdI (sg r))] w := by
        intro d w cs u Q hd hw hf hl K
        refine s_X12_unit_4 (by omega) w _ (fun _ z => absurd e40 z) (fun _ _ => ?_) (fun z => absurd n33 z)
        refine (ct_opens (by omega) hw b).mono ?_
        rintro y v ⟨rfl, rfl⟩
        rw [ht] at hw
        have ho := mopen hT hw
        refine ⟨rfl, s_X12_unit_57 (by omega) _ (fun z => absurd ho.1.2.1 z) (fun _ => ?_)⟩
        exact (m1 d _ cs (by omega) ho.1 (by omega)).mono (fun y v hv => ⟨hv.1, K v ⟨rfl, hv.2.1.trans (ho.2.trans hf), hv.2.2⟩⟩)
      cases R1 with
      | inl n =>
        refine ⟨Sum.inl n, by have : n ≤ t.length := p1
                              show n ≤ r.length; omega, cls _ (fun d w code u hd hw hf hl => ?_), ref _ (fun d w cs u hd hw hf hl => ?_)⟩
        · obtain ⟨d, rfl⟩ : ∃ e, d = e + 1 := ⟨d - 1, by omega⟩
          refine cgo d w code u _ (by omega) (cgo2 d w code u _ (by omega) hw hf hl (fun y v hv => ?_))
          exact ⟨_, hv.2.1, s_X6_readsNested_35 (by omega) v _ (fun _ => ⟨hv.1, rfl, hv.2.2⟩) (fun z => absurd rfl z)⟩
        · refine mgo d w cs u _ hd hw hf hl (fun v hv => ?_)
          obtain ⟨-, f1, e1⟩ := hv
          refine s_X12_unit_69 (by omega) v ?_
          refine (ct_closes_e (by omega) e1.2.1 41).mono ?_
          rintro y x ⟨rfl, x1⟩
          exact ⟨rfl, s_X12_unit_75 (by omega) x ⟨rfl, (x1.mono (fun c i z => by unfold lmF; omega)).trans f1, (e1.w x1).le (by omega)⟩⟩
      | inr q =>
        obtain ⟨q1, q2, q4, q3⟩ := p1
        have hsq := sg_len q.2
        by_cases b2 : ∃ t1, sg q.2 = 41 :: t1
        · have b2' := b2
          obtain ⟨t1, ht1⟩ := b2
          have ht1l : t1.length + 1 ≤ q.2.length := by rw [ht1] at hsq; exact hsq
          refine ⟨Sum.inr (q.1, t1), ⟨by show q.1.length + t1.length ≤ r.length; omega, by show t1.length + 1 ≤ r.length; omega, fun c hc => sg_sub (by rw [ht]; exact List.mem_cons_of_mem _ (q4 c (sg_sub (by rw [ht1]; exact List.mem_cons_of_mem _ hc)))), fun k hk => q3 k (by omega)⟩, cls _ (fun d w code u hd hw hf hl => ?_), ref _ (fun d w cs u hd hw hf hl => ?_)⟩
          · obtain ⟨d, rfl⟩ : ∃ e, d = e + 1 := ⟨d - 1, by omega⟩
            refine cgo d w code u _ (by omega) (cgo2 d w code u _ (by omega) hw hf hl (fun y v hv => ?_))
            refine ⟨_, hv.2.1, s_X6_readsNested_35 (by omega) v _ (fun z => absurd z (by decide)) (fun _ => ?_)⟩
            refine (ct_X9_takes (by omega) hT hv.2.2.1 (x := 41) (by omega)).mono ?_
            rintro y x ⟨x1, ⟨t2, x2, rfl, x3⟩ | ⟨x2, -, -⟩⟩
            · rw [ht1] at x2
              have e2 : t1 = t2 := by cases x2; rfl
              refine ⟨_, rfl, s_X6_readsNested_47 (by omega) x _ ⟨(nu_lr (at_nu x1)).trans hv.1, rfl, ?_⟩⟩
              rw [e2]; exact hv.2.2.mv (at_nu x1) x3
            · exact absurd b2' x2
          · refine mgo d w cs u _ hd hw hf hl (fun v hv => ?_)
            obtain ⟨-, f1, e1⟩ := hv
            refine s_X12_unit_69 (by omega) v ?_
            refine (ct_closes (by omega) hT hm e1 (x := 41) (by omega)).mono ?_
            rintro y x ⟨rfl, x1, ⟨t2, x2, x3⟩ | ⟨x2, -⟩⟩
            · rw [ht1] at x2
              have e2 : t1 = t2 := by cases x2; rfl
              refine ⟨rfl, s_X12_unit_75 (by omega) x ⟨rfl, x1.trans f1, ?_⟩⟩
              rw [e2]; exact x3
            · exact absurd b2' x2
        · refine ⟨Sum.inl (sg q.2).length, by show (sg q.2).length ≤ r.length; omega, cls _ (fun d w code u hd hw hf hl => ?_), ref _ (fun d w cs u hd hw hf hl => ?_)⟩
          · obtain ⟨d, rfl⟩ : ∃ e, d = e + 1 := ⟨d - 1, by omega⟩
            refine cgo d w code u _ (by omega) (cgo2 d w code u _ (by omega) hw hf hl (fun y v hv => ?_))
            refine ⟨_, hv.2.1, s_X6_readsNested_35 (by omega) v _ (fun z => absurd z (by decide)) (fun _ => ?_)⟩
            refine (ct_X9_takes (by omega) hT hv.2.2.1 (x := 41) (by omega)).mono ?_
            rintro y x ⟨x1, ⟨t2, x2, rfl, x3⟩ | ⟨x2, rfl, x3⟩⟩
            · exact absurd ⟨t2, x2⟩ b2
            · exact ⟨_, rfl, s_X6_readsNested_47 (by omega) x _ ⟨(nu_lr (at_nu x1)).trans hv.1, rfl, x3.at⟩⟩
          · refine mgo d w cs u _ hd hw hf hl (fun v hv => ?_)
            obtain ⟨-, f1, e1⟩ := hv
            refine s_X12_unit_69 (by omega) v ?_
            refine (ct_closes (by omega) hT hm e1 (x := 41) (by omega)).mono ?_
            rintro y x ⟨rfl, x1, ⟨t2, x2, x3⟩ | ⟨x2, x3⟩⟩
            · exact absurd ⟨t2, x2⟩ b2
            · exact ⟨rfl, s_X12_unit_75 (by omega) x ⟨rfl, x1.trans f1, x3.le (by rw [List.length_append]; omega)⟩⟩
    · have em : m = 6 := by omega
      subst em
      refine ⟨Sum.inl (sg r).length, hsl, cls _ (fun d w code u hd hw hf hl => ?_), ref _ (fun d w cs u hd hw hf hl => ?_)⟩
      · obtain ⟨d, rfl⟩ : ∃ e, d = e + 1 := ⟨d - 1, by omega⟩
        refine cgo d w code u _ (by omega) ?_
        exact s_X6_readsNested_0 (by omega) w _ _ (fun z => absurd ((n_lt 6 6).mp z) (by omega)) (fun z => absurd ((n_lt 6 6).mp z) (by omega)) (fun _ => ⟨hf, rfl, hw.1.at⟩)
      · refine s_X12_unit_4 (by omega) w _ (fun _ z => absurd e40 z) (fun _ _ => ?_) (fun z => absurd n33 z)
        refine (ct_opens6 (by omega) hT hw (B := cs.length + r.length + (8 * (6 - 6) + 4)) (by omega)).mono ?_
        rintro y v ⟨rfl, v1, v2⟩
        exact ⟨rfl, s_X12_unit_57 (by omega) v (fun _ => ⟨rfl, v1.trans hf, v2⟩) (fun z => absurd v2.2.1 z)⟩
  have n40 : ¬ hdI (sg r) = (40 : Int32) := fun z => a2 (k40.mp z)
  -- a comparison of two sums
  obtain ⟨R1, p1, c1, m1⟩ := sum_all hT hn0 (sg r).length (sg r) (Nat.le_refl _) hs m hm
  cases R1 with
  | inl n =>
    refine ⟨Sum.inl n, by have : n ≤ (sg r).length := p1
                          show n ≤ r.length; omega, cls _ (fun d w code u hd hw hf hl => ?_), ref _ (fun d w cs u hd hw hf hl => ?_)⟩
    · refine s_X6_readsUnit_11 (by omega) w _ _ (fun z => absurd z n33) (fun _ _ => ?_) (fun _ z => absurd n40 z)
      refine (c1 d w code (by omega) hw (by omega)).mono ?_
      rintro y v ⟨v1, v2, v3⟩
      exact ⟨_, v2, s_X6_readsUnit_36 (by omega) v _ _ (fun z => absurd rfl z) (fun _ => ⟨v1.trans hf, rfl, v3⟩)⟩
    · refine s_X12_unit_4 (by omega) w _ (fun _ _ => ?_) (fun _ z => absurd n40 z) (fun z => absurd n33 z)
      refine (m1 d w cs (by omega) hw (by omega)).mono ?_
      rintro y v ⟨rfl, v1, v2⟩
      exact ⟨rfl, s_X12_unit_82 (by omega) v (fun _ => ⟨rfl, v1.trans hf, v2.le (by omega)⟩) (fun z => absurd v2.2.1 z)⟩
  | inr q =>
    obtain ⟨q1, q2, q4, q3⟩ := p1
    obtain ⟨R2, p2, c2, m2⟩ := nt_cmp hT hn0 hm (r := q.2) (fun c hc => hs c (q4 c hc))
    have cgo : ∀ d w code u (Q : Option ax_V → ax_S → Prop), 7 + 5 * (6 - m) ≤ d → cS T w (sg r) code → fo lrS w u → code.length + r.length ≤ 240 → (∀ y x v, fo lrS v u → cQ T v (code ++ lw_e q.1) R2 y x → Q y x) → ax_W shC (d + 1) mX6_readsUnit Q 11 [some (ax_r 3), some (ax_i (nI m)), none, none] [ax_i (hdI (sg r))] w := by
      intro d w code u Q hd hw hf hl K
      refine s_X6_readsUnit_11 (by omega) w _ _ (fun z => absurd z n33) (fun _ _ => ?_) (fun _ z => absurd n40 z)
      refine (c1 d w code (by omega) hw (by omega)).mono ?_
      rintro y v ⟨v1, v2, v3⟩
      refine ⟨_, v2, s_X6_readsUnit_36 (by omega) v _ _ (fun _ => ?_) (fun z => absurd (show ¬ (1 : Int32) = 0 by decide) z)⟩
      exact c2 d v _ Q (by omega) v3 (by rw [List.length_append, lw_e_len]; omega) (fun y x hx => K y x v (v1.trans hf) hx)
    have mgo : ∀ d w cs u (Q : Option ax_V → ax_S → Prop), 7 + 5 * (6 - m) ≤ d → mLs T n0 w (sg r) m cs → fo (lmF n0) w u → cs.length + r.length ≤ 240 → (∀ v x, fo (lmF n0) v u → mQ T n0 v m (cs ++ q.1) (cs.length + r.length + (8 * (6 - m) + 4)) R2 none x → Q none x) → ax_W shM (d + 1) mX12_unit Q 4 [some (ax_r 0), none] [ax_i (hdI (sg r))] w := by
      intro d w cs u Q hd hw hf hl K
      refine s_X12_unit_4 (by omega) w _ (fun _ _ => ?_) (fun _ z => absurd n40 z) (fun z => absurd n33 z)
      refine (m1 d w cs (by omega) hw (by omega)).mono ?_
      rintro y v ⟨rfl, v1, v2⟩
      have hlen : (cs ++ q.1).length = cs.length + q.1.length := List.length_append
      refine ⟨rfl, s_X12_unit_82 (by omega) v (fun z => absurd v2.2.1 z) (fun _ => ?_)⟩
      refine (m2 d v _ (by omega) v2 (by omega)).mono ?_
      intro y x hx
      refine ⟨hx.1, s_X12_unit_94 (by omega) x (K v x (v1.trans hf) ?_)⟩
      cases R2 with
      | inl n => exact ⟨rfl, hx.2.1, hx.2.2.le (by omega)⟩
      | inr q2 => exact ⟨rfl, hx.2.1, hx.2.2⟩
    cases R2 with
    | inl n =>
      refine ⟨Sum.inl n, by have : n ≤ q.2.length := p2
                            show n ≤ r.length; omega, cls _ (fun d w code u hd hw hf hl => ?_), ref _ (fun d w cs u hd hw hf hl => ?_)⟩
      · exact cgo d w code u _ hd hw hf hl (fun y x v hv hx => ⟨hx.1.trans hv, hx.2⟩)
      · exact mgo d w cs u _ hd hw hf hl (fun v x hv hx => ⟨rfl, hx.2.1.trans hv, hx.2.2⟩)
    | inr s =>
      obtain ⟨s1, s2, s4, s3⟩ := p2
      refine ⟨Sum.inr (q.1 ++ s.1, s.2), ⟨?_, ?_, fun c hc => sg_sub (q4 c (s4 c hc)), fun k hk => ?_⟩, cls _ (fun d w code u hd hw hf hl => ?_), ref _ (fun d w cs u hd hw hf hl => ?_)⟩
      · show (q.1 ++ s.1).length + s.2.length ≤ r.length
        rw [List.length_append]; omega
      · show s.2.length + 1 ≤ r.length; omega
      · exact le_ok_app (q3 k (by omega)) (s3 k (by omega))
      · refine cgo d w code u _ hd hw hf hl (fun y x v hv hx => ⟨hx.1.trans hv, hx.2.1, ?_⟩)
        show cS T x s.2 (code ++ lw_e (q.1 ++ s.1))
        rw [lw_e_app, ← List.append_assoc]; exact hx.2.2
      · refine mgo d w cs u _ hd hw hf hl (fun v x hv hx => ⟨rfl, hx.2.1.trans hv, ?_⟩)
        show mLs T n0 x s.2 m (cs ++ (q.1 ++ s.1))
        rw [← List.append_assoc]; exact hx.2.2
theorem cond_all {T : List Nat} (hT : tkOk T) {n0 : Nat} (hn0 : n0 ≤ 4) : ∀ (N : Nat) (r : List Nat), r.length ≤ N → (∀ c ∈ r, c ≤ 255) → ∀ m, m ≤ 6 → Um T n0 m r ∧ Cm T n0 m r := by
  intro N
  induction N with
  | zero =>
    intro r hN hr m hm
    have U : ∀ t, t.length ≤ r.length → (∀ c ∈ t, c ≤ 255) → Um T n0 m t := fun t ht htr => nt_unit hT hn0 hm htr (fun _ x hx => absurd hx (by omega))
    exact ⟨U r (Nat.le_refl _) hr, nt_cond hT hn0 hm hr (fun t ht htr => nt_truth hT hn0 hm htr (fun s hs hsr => U s (by omega) hsr))⟩
  | succ N ih =>
    intro r hN hr m hm
    have U : ∀ t, t.length ≤ r.length → (∀ c ∈ t, c ≤ 255) → Um T n0 m t := fun t ht htr => nt_unit hT hn0 hm htr (fun h6 x hx hxr => ih x (by omega) hxr (m + 1) (by omega))
    exact ⟨U r (Nat.le_refl _) hr, nt_cond hT hn0 hm hr (fun t ht htr => nt_truth hT hn0 hm htr (fun s hs hsr => U s (by omega) hsr))⟩
