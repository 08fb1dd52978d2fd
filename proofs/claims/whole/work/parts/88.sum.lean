/-! ===== ATOM, TERM, SUM ===== -/
theorem sg_sub : ∀ {q : List Nat} {c : Nat}, c ∈ sg q → c ∈ q
  | [], c, hc => absurd hc List.not_mem_nil
  | a :: t, c, hc => by
    rw [sg] at hc
    split at hc
    · exact List.mem_cons_of_mem _ (sg_sub hc)
    · exact hc
theorem numA_sub : ∀ {f v : Nat} {r : List Nat} {c : Nat}, c ∈ (numA f v r).2 → c ∈ r
  | 0, v, r, c, h => h
  | f + 1, v, [], c, h => h
  | f + 1, v, a :: t, c, h => by
    rw [numA] at h
    split at h
    · exact List.mem_cons_of_mem _ (numA_sub h)
    · exact h
def lq : List Nat → Nat
  | [] => 6
  | c :: _ => li c
theorem lq_le (s : List Nat) : lq s ≤ 6 := by cases s with
  | nil => exact Nat.le_refl _
  | cons c t => exact li_le c
theorem lq_C {s : List Nat} (hs : ∀ c ∈ s, c ≤ 255) : ∀ i, i < 6 → ((List.getD ([112, 116, 108, 107, 110, 100] : List Int32) i 0) = hdI s ↔ lq s = i) := by
  cases s with
  | nil => exact (by decide +kernel : ∀ i, i < 6 → ((List.getD ([112, 116, 108, 107, 110, 100] : List Int32) i 0) = (-1 : Int32) ↔ 6 = i))
  | cons c t => exact li_C (hs c List.mem_cons_self)
theorem lq_M {s : List Nat} (hs : ∀ c ∈ s, c ≤ 255) : v_X12_letterOf (hdI s) = if lq s = 6 then -1 else nI (lq s) := by
  cases s with
  | nil => decide
  | cons c t => exact li_M (hs c List.mem_cons_self)
theorem lq_dg {s : List Nat} (h : dgs s = true) : lq s = 6 := by
  cases s with
  | nil => rfl
  | cons c t =>
    have := dg_iff.mp (show dg c = true from h)
    show li c = 6
    unfold li; repeat' split
    all_goals omega
theorem lw_e_app (a b : List (Nat × Nat)) : lw_e (a ++ b) = lw_e a ++ lw_e b := List.map_append
theorem cS.le {T r code : List Nat} {u : ax_S} (h : cS T u r code) (hT : tkOk T) : ∀ c ∈ r, c ≤ 255 := fun c hc => ((h.1.le hT).2 c hc).2
theorem mLs.le {T r : List Nat} {u : ax_S} {n0 m : Nat} {cs : List (Nat × Nat)} (h : mLs T n0 u r m cs) (hT : tkOk T) : ∀ c ∈ r, c ≤ 255 := fun c hc => ((h.1.le hT).2 c hc).2
/-- opens(), below the sixth -/
theorem mopen {T : List Nat} (hT : tkOk T) {c : Nat} {t : List Nat} {w : ax_S} {n0 m : Nat} {cs : List (Nat × Nat)} (hw : mLs T n0 w (c :: t) m cs) : mLs T n0 (ax_ui (ax_ui w 0 5 (w.1 0 5 + 1)) 0 3 (w.1 0 3 + 1)) t (m + 1) cs ∧ fo (lmF n0) (ax_ui (ax_ui w 0 5 (w.1 0 5 + 1)) 0 3 (w.1 0 3 + 1)) w := by
  have f : fo (fun c i => c = 0 ∧ (i = 3 ∨ i = 5)) (ax_ui (ax_ui w 0 5 (w.1 0 5 + 1)) 0 3 (w.1 0 3 + 1)) w := (fo.rfl'.ui (by omega)).ui (by omega)
  have hfk : fk (fun c i => c = 0 ∧ i = 5) (ax_ui (ax_ui w 0 5 (w.1 0 5 + 1)) 0 3 (w.1 0 3 + 1)) (ax_ui w 0 3 (w.1 0 3 + 1)) := fun a b hab => by
    rw [ui_any, ui_any, ui_any]
    by_cases q : a = 0 ∧ b = 3
    · rw [if_pos q, if_pos q]
    · rw [if_neg q, if_neg q, if_neg hab]
  refine ⟨⟨(hw.1.cons hT).2.2.1.to hfk (by omega), by rw [f.1 0 4 (by omega)]; exact hw.2.1, ?_, hw.2.2.2.to f.1 (by omega)⟩, f.mono (fun c i z => by unfold lmF; omega)⟩
  rw [ui_idx (by omega), ui_same, hw.2.2.1, nI_1]
/-- closes(), where something was wrong -/
theorem ct_closes_e {d : Nat} (hd : 1 ≤ d) {w : ax_S} (h : ¬ w.1 0 4 = -1) (x : Int32) : ax_Ct shM d mX12_closes [ax_r 0, ax_i x] (fun y v => y = none ∧ fo (fun c i => c = 0 ∧ (i = 3 ∨ i = 5)) v w) w := by
  obtain ⟨d, rfl⟩ : ∃ e, d = e + 1 := ⟨d - 1, by omega⟩
  refine ax_Ct.of (lv := [some (ax_r 0), some (ax_i x)]) (by decide +kernel) (fun ad => Nat.le_of_ble_eq_true rfl) (fun ad => rfl) ?_
  exact s_X12_closes_0 (by omega) w _ (fun _ => ⟨rfl, (fo.rfl'.ui (by omega)).ui (by omega)⟩) (fun z => absurd h z)
theorem ct_closes {d : Nat} (hd : 3 ≤ d) {T : List Nat} (hT : tkOk T) {w : ax_S} {r : List Nat} {n0 m : Nat} {cs : List (Nat × Nat)} (hm : m ≤ 6) (h : mLs T n0 w r (m + 1) cs) {x : Nat} (hx : x ≤ 255) :
    ax_Ct shM d mX12_closes [ax_r 0, ax_i (nI x)] (fun y v => y = none ∧ fo (lmF n0) v w ∧ ((∃ t, sg r = x :: t ∧ mLs T n0 v t m cs) ∨ ((¬ ∃ t, sg r = x :: t) ∧ mE T n0 (sg r).length cs.length v))) w := by
  obtain ⟨d, rfl⟩ : ∃ e, d = e + 1 := ⟨d - 1, by omega⟩
  refine ax_Ct.of (lv := [some (ax_r 0), some (ax_i (nI x))]) (by decide +kernel) (fun ad => Nat.le_of_ble_eq_true rfl) (fun ad => rfl) ?_
  refine s_X12_closes_0 (by omega) w _ (fun z => absurd h.2.1 z) (fun _ => ?_)
  refine (ct_X12_look (by omega) hT h.1).mono ?_
  rintro y v ⟨rfl, v1, v2⟩
  have hv := h.mv v1 v2
  have key := hdI_eq (r := sg r) (x := x) (hv.le hT) hx
  refine ⟨_, rfl, s_X12_closes_12 (by omega) v _ _ (fun z => ?_) (fun z => ?_)⟩
  · obtain ⟨t, ht⟩ := key.mp z
    rw [ht] at hv
    obtain ⟨n1, n2⟩ := hv.next hT
    have f : fo (fun c i => c = 0 ∧ i = 5) (ax_ui (ax_ui v 0 3 (v.1 0 3 + 1)) 0 5 (v.1 0 5 - 1)) (ax_ui v 0 3 (v.1 0 3 + 1)) := fo.rfl'.ui ⟨rfl, rfl⟩
    refine ⟨rfl, (f.mono (fun c i z => by unfold lmF; omega)).trans (n2.trans (at_lm v1)), Or.inl ⟨t, ht, ?_⟩⟩
    refine ⟨n1.1.to f.1 (by omega), by rw [f.1 0 4 (by omega)]; exact n1.2.1, ?_, n1.2.2.2.to f.1 (by omega)⟩
    rw [ui_same, hv.2.2.1, show nI (m + 1) - (1 : Int32) = nI m from n_sub (m + 1) 1]
  · obtain ⟨k1, k2, k3⟩ := hv.bad hT (B := cs.length) (Nat.le_refl _)
    rw [k1]
    have f : fo (fun c i => c = 0 ∧ (i = 3 ∨ i = 5)) (ax_ui (ax_ui (ax_ui v 0 4 (nI (T.length - (sg r).length))) 0 3 (v.1 0 3 + 1)) 0 5 (v.1 0 5 - 1)) (ax_ui v 0 4 (nI (T.length - (sg r).length))) := (fo.rfl'.ui (by omega)).ui (by omega)
    exact ⟨rfl, (f.mono (fun c i z => by unfold lmF; omega)).trans (k3.trans (at_lm v1)), Or.inr ⟨fun q => z (key.mpr q), k2.w f⟩⟩
def Sm (T : List Nat) (n0 m : Nat) (r : List Nat) : Prop := NT mX6_readsSum [ax_r 3, ax_i (nI m)] mX12_sum (5 + 4 * (6 - m)) (8 * (6 - m) + 2) [] [false] (8 * m + 3) T n0 m r
def Tm (T : List Nat) (n0 m : Nat) (r : List Nat) : Prop := NT mX6_readsTerm [ax_r 3, ax_i (nI m)] mX12_term (4 + 4 * (6 - m)) (8 * (6 - m) + 1) [] [false] (8 * m + 4) T n0 m r
def Am (T : List Nat) (n0 m : Nat) (r : List Nat) : Prop := NT mX6_readsAtom [ax_r 3, ax_i (nI m)] mX12_atom (3 + 4 * (6 - m)) (8 * (6 - m)) [] [false] (8 * m + 5) T n0 m r
theorem bounds {T r : List Nat} {u : ax_S} (hT : tkOk T) (h : cT T u r ∨ mT T u r) : ∀ c ∈ r, c ≤ 255 := fun c hc => by
  rcases h with h | h
  · exact ((h.le hT).2 c hc).2
  · exact ((h.le hT).2 c hc).2
theorem nt_atom {T : List Nat} (hT : tkOk T) {n0 m : Nat} (hn0 : n0 ≤ 4) (hm : m ≤ 6) {r : List Nat} (hr : ∀ c ∈ r, c ≤ 255) (IH : m < 6 → ∀ t, t.length < r.length → (∀ c ∈ t, c ≤ 255) → Sm T n0 (m + 1) t) : Am T n0 m r := by
  have hsl := sg_len r
  have hss := sg_sg r
  have hs : ∀ c ∈ sg r, c ≤ 255 := by
    have : ∀ q : List Nat, (∀ c ∈ q, c ≤ 255) → ∀ c ∈ sg q, c ≤ 255 := by
      intro q
      induction q with
      | nil => intro _ c hc; exact absurd hc List.not_mem_nil
      | cons a t ih =>
        intro h c hc
        rw [sg] at hc
        split at hc
        · exact ih (fun c hc => h c (List.mem_cons_of_mem _ hc)) c hc
        · exact h c hc
    exact this r hr
  have cls : ∀ (R : rR), (∀ d w code u, 2 + 4 * (6 - m) ≤ d → cS T w (sg r) code → fo lrS w u → code.length + r.length ≤ 240 → ax_W shC (d + 1) mX6_readsAtom (cQ T u code R) 7 [some (ax_r 3), some (ax_i (nI m)), none, none] [ax_i (hdI (sg r))] w) → NC mX6_readsAtom [ax_r 3, ax_i (nI m)] (3 + 4 * (6 - m)) T r R := by
    intro R K d u code hd hu hl
    obtain ⟨d, rfl⟩ : ∃ e, d = e + 1 := ⟨d - 1, by omega⟩
    refine ax_Ct.of (lv := [some (ax_r 3), some (ax_i (nI m)), none, none]) (by decide +kernel) (fun ad => Nat.le_of_ble_eq_true rfl) (fun ad => rfl) ?_
    refine s_X6_readsAtom_0 (by omega) u _ ?_
    refine (ct_X9_sign (by omega) hT hu.1).mono ?_
    rintro y w ⟨rfl, w1, w2⟩
    exact ⟨_, rfl, K d w code u (by omega) (hu.mv (at_nu w1) w2) (nu_lr (at_nu w1)) hl⟩
  have ref : ∀ (R : rR), (∀ d w cs u, 2 + 4 * (6 - m) ≤ d → mLs T n0 w (sg r) m cs → fo (lmF n0) w u → cs.length + r.length ≤ 240 → ax_W shM (d + 1) mX12_atom (mQ T n0 u m cs (cs.length + r.length + 8 * (6 - m)) R) 4 [some (ax_r 0), none] [ax_i (hdI (sg r))] w) → NM mX12_atom (3 + 4 * (6 - m)) (8 * (6 - m)) T n0 m r R := by
    intro R K d u cs hd hu hl
    obtain ⟨d, rfl⟩ : ∃ e, d = e + 1 := ⟨d - 1, by omega⟩
    refine ax_Ct.of (lv := [some (ax_r 0), none]) (by decide +kernel) (fun ad => Nat.le_of_ble_eq_true rfl) (fun ad => rfl) ?_
    refine s_X12_atom_0 (by omega) u ?_
    refine (ct_X12_look (by omega) hT hu.1).mono ?_
    rintro y w ⟨rfl, w1, w2⟩
    exact ⟨_, rfl, K d w cs u (by omega) (hu.mv w1 w2) (at_lm w1) hl⟩
  have h91 := hdI_eq (r := sg r) (x := 91) hs (by omega)
  have hdd := hdI_dg (r := sg r) hs
  have hlC := lq_C hs
  have hlM := lq_M hs
  have hlq := lq_le (sg r)
  by_cases a : ∃ t, sg r = 91 :: t
  · -- an opening bracket
    have e91 : hdI (sg r) = (91 : Int32) := h91.mpr a
    obtain ⟨t, ht⟩ := a
    have htl : t.length + 1 ≤ r.length := by rw [ht] at hsl; exact hsl
    have ndg : dgs (sg r) = false := by rw [ht]; rfl
    have nlq : lq (sg r) = 6 := by rw [ht]; rfl
    have nd : ¬ ((¬ hdI (sg r) < (48 : Int32)) ∧ (¬ (57 : Int32) < hdI (sg r))) := fun z => by rw [hdd.mp z] at ndg; cases ndg
    have nl : v_X12_letterOf (hdI (sg r)) = -1 := by rw [hlM, if_pos nlq]
    by_cases b : m < 6
    · have hts : ∀ c ∈ t, c ≤ 255 := fun c hc => hs c (by rw [ht]; exact List.mem_cons_of_mem _ hc)
      obtain ⟨R1, p1, c1, m1⟩ := IH b t (by omega) hts
      -- what comes of it
      have hcl : ∀ (q : List (Nat × Nat) × List Nat), (∀ c ∈ q.2, c ≤ 255) → ∀ c ∈ sg q.2, c ≤ 255 := fun q hq => by
        have : ∀ q : List Nat, (∀ c ∈ q, c ≤ 255) → ∀ c ∈ sg q, c ≤ 255 := by
          intro q
          induction q with
          | nil => intro _ c hc; exact absurd hc List.not_mem_nil
          | cons a t ih =>
            intro h c hc
            rw [sg] at hc
            split at hc
            · exact ih (fun c hc => h c (List.mem_cons_of_mem _ hc)) c hc
            · exact h c hc
        exact this q.2 hq
      cases R1 with
      | inl n =>
        refine ⟨Sum.inl n, by have : n ≤ t.length := p1
                              show n ≤ r.length; omega, cls _ (fun d w code u hd hw hf hl => ?_), ref _ (fun d w cs u hd hw hf hl => ?_)⟩
        · refine s_X6_readsAtom_7 (by omega) w _ _ (fun z => absurd e91 z) (fun _ _ => ?_) (fun _ z => absurd ((n_lt m 6).mpr b) z)
          rw [ht] at hw
          obtain ⟨n1, n2⟩ := hw.next hT
          rw [nI_1]
          refine (c1 d _ code (by omega) n1 (by omega)).mono ?_
          rintro y v ⟨v1, v2, v3⟩
          exact ⟨_, v2, s_X6_readsAtom_42 (by omega) v _ (fun _ => ⟨v1.trans (n2.trans hf), rfl, v3⟩) (fun z => absurd rfl z)⟩
        · refine s_X12_atom_4 (by omega) w _ (fun _ _ z => absurd e91 z) (fun _ _ _ => ?_) (fun _ z => absurd nl z) (fun _ z => absurd nl z) (fun _ z => absurd nl z) (fun z => absurd z nd)
          have g5 : ¬ w.1 0 5 = (6 : Int32) := by rw [hw.2.2.1]; exact fun z => absurd ((n_eq m 6).mp z) (by omega)
          refine ax_Ct.mono (Q1 := fun y v => y = none ∧ v = ax_ui (ax_ui w 0 5 (w.1 0 5 + 1)) 0 3 (w.1 0 3 + 1)) ?_ ?_
          · obtain ⟨d, rfl⟩ : ∃ e, d = e + 1 := ⟨d - 1, by omega⟩
            refine ax_Ct.of (lv := [some (ax_r 0)]) (by decide +kernel) (fun ad => Nat.le_of_ble_eq_true rfl) (fun ad => rfl) ?_
            exact s_X12_opens_0 (by omega) w (fun _ => ⟨rfl, rfl⟩) (fun z => absurd g5 z)
          · rintro y v ⟨rfl, rfl⟩
            rw [ht] at hw
            have ho : mLs T n0 (ax_ui (ax_ui w 0 5 (w.1 0 5 + 1)) 0 3 (w.1 0 3 + 1)) t (m + 1) cs ∧ fo (lmF n0) (ax_ui (ax_ui w 0 5 (w.1 0 5 + 1)) 0 3 (w.1 0 3 + 1)) w := mopen hT hw
            refine ⟨rfl, s_X12_atom_64 (by omega) _ (fun z => absurd ho.1.2.1 z) (fun _ => ?_)⟩
            refine (m1 d _ cs (by omega) ho.1 (by omega)).mono ?_
            rintro y v ⟨rfl, v1, v2⟩
            refine ⟨rfl, s_X12_atom_76 (by omega) v ?_⟩
            refine (ct_closes_e (by omega) v2.2.1 93).mono ?_
            rintro y x ⟨rfl, x1⟩
            exact ⟨rfl, s_X12_atom_82 (by omega) x ⟨rfl, (x1.mono (fun c i z => by unfold lmF; omega)).trans (v1.trans (ho.2.trans hf)), (v2.w x1).le (by omega)⟩⟩
      | inr q =>
        obtain ⟨q1, q2, q4, q3⟩ := p1
        have hsq := sg_len q.2
        by_cases b2 : ∃ t1, sg q.2 = 93 :: t1
        · obtain ⟨t1, ht1⟩ := b2
          have ht1l : t1.length + 1 ≤ q.2.length := by rw [ht1] at hsq; exact hsq
          refine ⟨Sum.inr (q.1, t1), ⟨by show q.1.length + t1.length ≤ r.length; omega, by show t1.length + 1 ≤ r.length; omega, fun c hc => sg_sub (by rw [ht]; exact List.mem_cons_of_mem _ (q4 c (sg_sub (by rw [ht1]; exact List.mem_cons_of_mem _ hc)))), fun k hk => q3 k (by omega)⟩, cls _ (fun d w code u hd hw hf hl => ?_), ref _ (fun d w cs u hd hw hf hl => ?_)⟩
          · refine s_X6_readsAtom_7 (by omega) w _ _ (fun z => absurd e91 z) (fun _ _ => ?_) (fun _ z => absurd ((n_lt m 6).mpr b) z)
            rw [ht] at hw
            obtain ⟨n1, n2⟩ := hw.next hT
            rw [nI_1]
            refine (c1 d _ code (by omega) n1 (by omega)).mono ?_
            rintro y v ⟨v1, v2, v3⟩
            refine ⟨_, v2, s_X6_readsAtom_42 (by omega) v _ (fun z => absurd z (by decide)) (fun _ => ?_)⟩
            refine (ct_X9_takes (by omega) hT v3.1 (x := 93) (by omega)).mono ?_
            rintro y x ⟨x1, ⟨t2, x2, rfl, x3⟩ | ⟨x2, -, -⟩⟩
            · rw [ht1] at x2
              have e2 : t1 = t2 := by cases x2; rfl
              refine ⟨_, rfl, s_X6_readsAtom_54 (by omega) x _ ⟨(nu_lr (at_nu x1)).trans (v1.trans (n2.trans hf)), rfl, ?_⟩⟩
              rw [e2]; exact v3.mv (at_nu x1) x3
            · exact absurd ⟨t1, ht1⟩ x2
          · refine s_X12_atom_4 (by omega) w _ (fun _ _ z => absurd e91 z) (fun _ _ _ => ?_) (fun _ z => absurd nl z) (fun _ z => absurd nl z) (fun _ z => absurd nl z) (fun z => absurd z nd)
            have g5 : ¬ w.1 0 5 = (6 : Int32) := by rw [hw.2.2.1]; exact fun z => absurd ((n_eq m 6).mp z) (by omega)
            refine ax_Ct.mono (Q1 := fun y v => y = none ∧ v = ax_ui (ax_ui w 0 5 (w.1 0 5 + 1)) 0 3 (w.1 0 3 + 1)) ?_ ?_
            · obtain ⟨d, rfl⟩ : ∃ e, d = e + 1 := ⟨d - 1, by omega⟩
              refine ax_Ct.of (lv := [some (ax_r 0)]) (by decide +kernel) (fun ad => Nat.le_of_ble_eq_true rfl) (fun ad => rfl) ?_
              exact s_X12_opens_0 (by omega) w (fun _ => ⟨rfl, rfl⟩) (fun z => absurd g5 z)
            · rintro y v ⟨rfl, rfl⟩
              rw [ht] at hw
              have ho := mopen hT hw
              refine ⟨rfl, s_X12_atom_64 (by omega) _ (fun z => absurd ho.1.2.1 z) (fun _ => ?_)⟩
              refine (m1 d _ cs (by omega) ho.1 (by omega)).mono ?_
              rintro y v ⟨rfl, v1, v2⟩
              refine ⟨rfl, s_X12_atom_76 (by omega) v ?_⟩
              refine (ct_closes (by omega) hT hm v2 (x := 93) (by omega)).mono ?_
              rintro y x ⟨rfl, x1, ⟨t2, x2, x3⟩ | ⟨x2, -⟩⟩
              · rw [ht1] at x2
                have e2 : t1 = t2 := by cases x2; rfl
                refine ⟨rfl, s_X12_atom_82 (by omega) x ⟨rfl, x1.trans (v1.trans (ho.2.trans hf)), ?_⟩⟩
                rw [e2]; exact x3
              · exact absurd ⟨t1, ht1⟩ x2
        · refine ⟨Sum.inl (sg q.2).length, by show (sg q.2).length ≤ r.length; omega, cls _ (fun d w code u hd hw hf hl => ?_), ref _ (fun d w cs u hd hw hf hl => ?_)⟩
          · refine s_X6_readsAtom_7 (by omega) w _ _ (fun z => absurd e91 z) (fun _ _ => ?_) (fun _ z => absurd ((n_lt m 6).mpr b) z)
            rw [ht] at hw
            obtain ⟨n1, n2⟩ := hw.next hT
            rw [nI_1]
            refine (c1 d _ code (by omega) n1 (by omega)).mono ?_
            rintro y v ⟨v1, v2, v3⟩
            refine ⟨_, v2, s_X6_readsAtom_42 (by omega) v _ (fun z => absurd z (by decide)) (fun _ => ?_)⟩
            refine (ct_X9_takes (by omega) hT v3.1 (x := 93) (by omega)).mono ?_
            rintro y x ⟨x1, ⟨t2, x2, rfl, x3⟩ | ⟨x2, rfl, x3⟩⟩
            · exact absurd ⟨t2, x2⟩ b2
            · exact ⟨_, rfl, s_X6_readsAtom_54 (by omega) x _ ⟨(nu_lr (at_nu x1)).trans (v1.trans (n2.trans hf)), rfl, x3.at⟩⟩
          · refine s_X12_atom_4 (by omega) w _ (fun _ _ z => absurd e91 z) (fun _ _ _ => ?_) (fun _ z => absurd nl z) (fun _ z => absurd nl z) (fun _ z => absurd nl z) (fun z => absurd z nd)
            have g5 : ¬ w.1 0 5 = (6 : Int32) := by rw [hw.2.2.1]; exact fun z => absurd ((n_eq m 6).mp z) (by omega)
            refine ax_Ct.mono (Q1 := fun y v => y = none ∧ v = ax_ui (ax_ui w 0 5 (w.1 0 5 + 1)) 0 3 (w.1 0 3 + 1)) ?_ ?_
            · obtain ⟨d, rfl⟩ : ∃ e, d = e + 1 := ⟨d - 1, by omega⟩
              refine ax_Ct.of (lv := [some (ax_r 0)]) (by decide +kernel) (fun ad => Nat.le_of_ble_eq_true rfl) (fun ad => rfl) ?_
              exact s_X12_opens_0 (by omega) w (fun _ => ⟨rfl, rfl⟩) (fun z => absurd g5 z)
            · rintro y v ⟨rfl, rfl⟩
              rw [ht] at hw
              have ho := mopen hT hw
              refine ⟨rfl, s_X12_atom_64 (by omega) _ (fun z => absurd ho.1.2.1 z) (fun _ => ?_)⟩
              refine (m1 d _ cs (by omega) ho.1 (by omega)).mono ?_
              rintro y v ⟨rfl, v1, v2⟩
              refine ⟨rfl, s_X12_atom_76 (by omega) v ?_⟩
              refine (ct_closes (by omega) hT hm v2 (x := 93) (by omega)).mono ?_
              rintro y x ⟨rfl, x1, ⟨t2, x2, x3⟩ | ⟨x2, x3⟩⟩
              · exact absurd ⟨t2, x2⟩ b2
              · exact ⟨rfl, s_X12_atom_82 (by omega) x ⟨rfl, x1.trans (v1.trans (ho.2.trans hf)), x3.le (by rw [List.length_append]; omega)⟩⟩
    · have em : m = 6 := by omega
      refine ⟨Sum.inl (sg r).length, hsl, cls _ (fun d w code u hd hw hf hl => ?_), ref _ (fun d w cs u hd hw hf hl => ?_)⟩
      · exact s_X6_readsAtom_7 (by omega) w _ _ (fun z => absurd e91 z) (fun _ z => absurd ((n_lt m 6).mp z) b) (fun _ _ => ⟨hf, rfl, hw.1.at⟩)
      · refine s_X12_atom_4 (by omega) w _ (fun _ _ z => absurd e91 z) (fun _ _ _ => ?_) (fun _ z => absurd nl z) (fun _ z => absurd nl z) (fun _ z => absurd nl z) (fun z => absurd z nd)
        have g5 : w.1 0 5 = (6 : Int32) := by rw [hw.2.2.1, em]; rfl
        obtain ⟨k1, k2, k3⟩ := hw.bad hT (B := cs.length + r.length + 8 * (6 - m)) (by omega)
        obtain ⟨d, rfl⟩ : ∃ e, d = e + 1 := ⟨d - 1, by omega⟩
        refine ax_Ct.mono (Q1 := fun y v => y = none ∧ v = ax_ui (ax_ui (ax_ui w 0 4 (nI (T.length - (sg r).length))) 0 5 (w.1 0 5 + 1)) 0 3 (w.1 0 3 + 1)) ?_ ?_
        · refine ax_Ct.of (lv := [some (ax_r 0)]) (by decide +kernel) (fun ad => Nat.le_of_ble_eq_true rfl) (fun ad => rfl) ?_
          refine s_X12_opens_0 (by omega) w (fun z => absurd g5 z) (fun _ => ⟨rfl, ?_⟩)
          rw [k1]
        · rintro y v ⟨rfl, rfl⟩
          have fx : fo (fun c i => c = 0 ∧ (i = 3 ∨ i = 5)) (ax_ui (ax_ui (ax_ui w 0 4 (nI (T.length - (sg r).length))) 0 5 (w.1 0 5 + 1)) 0 3 (w.1 0 3 + 1)) (ax_ui w 0 4 (nI (T.length - (sg r).length))) := (fo.rfl'.ui (by omega)).ui (by omega)
          have kx := k2.w fx
          exact ⟨rfl, s_X12_atom_64 (by omega) _ (fun _ => ⟨rfl, (fx.mono (fun c i z => by unfold lmF; omega)).trans (k3.trans hf), kx⟩) (fun z => absurd kx.2.1 z)⟩
  · have e91 : ¬ hdI (sg r) = (91 : Int32) := fun z => a (h91.mp z)
    by_cases b : dgs (sg r) = true
    · -- a number
      have nlq := lq_dg b
      have hdig := hdd.mpr b
      have hlt : (numA 4 0 (sg r)).2.length < (sg r).length := numA_lt (f := 3) (v := 0) b
      have hvb := numA_b 4 0 (sg r)
      have hp4 : (0 + 1) * (10 : Nat) ^ 4 = 10000 := by decide
      rw [hp4] at hvb
      cases e : dgs (numA 4 0 (sg r)).2
      · refine ⟨Sum.inr ([(0, (numA 4 0 (sg r)).1)], (numA 4 0 (sg r)).2), ⟨by show 1 + (numA 4 0 (sg r)).2.length ≤ r.length; omega, by show (numA 4 0 (sg r)).2.length + 1 ≤ r.length; omega, fun c hc => sg_sub (numA_sub hc), fun k hk => Or.inl ⟨rfl, by show (numA 4 0 (sg r)).1 ≤ 9999; omega, by show k.length + 1 ≤ 60; omega, rfl⟩⟩, cls _ (fun d w code u hd hw hf hl => ?_), ref _ (fun d w cs u hd hw hf hl => ?_)⟩
        · refine s_X6_readsAtom_7 (by omega) w _ _ (fun _ => ?_) (fun z => absurd e91 z) (fun z => absurd e91 z)
          refine w_letters hlq hlC (fun _ => ?_) (fun z => absurd nlq (by omega))
          refine (ct_X9_takesNumber (by omega) hT hw.1 (D := 4) (by omega)).mono ?_
          rw [hss]
          rintro y v ⟨v1, ⟨v2, -⟩ | ⟨-, v2, -⟩ | ⟨-, -, rfl, v3, v4⟩⟩
          · rw [b] at v2; cases v2
          · rw [e] at v2; cases v2
          · refine ⟨_, rfl, s_X6_readsAtom_117 (by omega) v _ (fun _ => ?_) (fun z => absurd (show ¬ (1 : Int32) = 0 by decide) z)⟩
            rw [v4]
            refine (ct_X6_put (by omega) (hw.mv v1 v3) (by omega) (a := 0) (by omega) (by omega)).mono ?_
            rintro y x ⟨rfl, x1, x2⟩
            exact ⟨rfl, s_X6_readsAtom_134 (by omega) x ⟨x1.trans ((nu_lr v1).trans hf), rfl, x2⟩⟩
        · refine s_X12_atom_4 (by omega) w _ (fun z => absurd hdig z) (fun z => absurd hdig z) (fun z => absurd hdig z) (fun z => absurd hdig z) (fun z => absurd hdig z) (fun _ => ?_)
          refine (ct_X12_plainNumber (by omega) hT hw.1 hw.2.1).mono ?_
          rintro y v ⟨v1, rfl, v2, v3⟩
          rw [e] at v3
          have hv : mLs T n0 v (numA 4 0 (sg r)).2 m cs := ⟨v2, v3, by rw [v1.1 0 5 (by unfold nuM; omega)]; exact hw.2.2.1, hw.2.2.2.to v1.1 (fun c i z => by unfold nuM at z; omega)⟩
          obtain ⟨i1, i2⟩ := put_in hv.2.2.2 hn0 (by omega)
          refine ⟨_, rfl, s_X12_atom_18 (by omega) v _ _ i1 i2 ?_⟩
          rw [put_eq hv.2.2.2 hn0 (by omega)]
          exact ⟨rfl, (pu_fo _ _ _ _ _).trans ((v1.mono (fun c i z => by unfold nuM at z; unfold lmF; omega)).trans hf), hv.put 0 _⟩
      · refine ⟨Sum.inl (numA 4 0 (sg r)).2.length, by show (numA 4 0 (sg r)).2.length ≤ r.length; omega, cls _ (fun d w code u hd hw hf hl => ?_), ref _ (fun d w cs u hd hw hf hl => ?_)⟩
        · refine s_X6_readsAtom_7 (by omega) w _ _ (fun _ => ?_) (fun z => absurd e91 z) (fun z => absurd e91 z)
          refine w_letters hlq hlC (fun _ => ?_) (fun z => absurd nlq (by omega))
          refine (ct_X9_takesNumber (by omega) hT hw.1 (D := 4) (by omega)).mono ?_
          rw [hss]
          rintro y v ⟨v1, ⟨v2, -⟩ | ⟨-, v2, rfl, v3⟩ | ⟨-, v2, -⟩⟩
          · rw [b] at v2; cases v2
          · exact ⟨_, rfl, s_X6_readsAtom_117 (by omega) v _ (fun z => absurd rfl z) (fun _ => ⟨(nu_lr v1).trans hf, rfl, v3.at⟩)⟩
          · rw [e] at v2; cases v2
        · refine s_X12_atom_4 (by omega) w _ (fun z => absurd hdig z) (fun z => absurd hdig z) (fun z => absurd hdig z) (fun z => absurd hdig z) (fun z => absurd hdig z) (fun _ => ?_)
          refine (ct_X12_plainNumber (by omega) hT hw.1 hw.2.1).mono ?_
          rintro y v ⟨v1, rfl, v2, v3⟩
          rw [e, if_pos rfl] at v3
          have hTl := hT.1
          have hP : mP n0 v cs := hw.2.2.2.to v1.1 (fun c i z => by unfold nuM at z; omega)
          have hE : mE T n0 (numA 4 0 (sg r)).2.length (cs.length + r.length + 8 * (6 - m)) v := ⟨v3, by rw [v3]; exact n_m1 _, cs, hP, by omega⟩
          obtain ⟨i1, i2⟩ := put_in hP hn0 (by omega)
          refine ⟨_, rfl, s_X12_atom_18 (by omega) v _ _ i1 i2 ?_⟩
          rw [put_eq hP hn0 (by omega)]
          exact ⟨rfl, (pu_fo _ _ _ _ _).trans ((v1.mono (fun c i z => by unfold nuM at z; unfold lmF; omega)).trans hf), hE.put hP (by omega) 0 _⟩
    · have bF : dgs (sg r) = false := by cases q : dgs (sg r)
                                         · rfl
                                         · exact absurd q b
      have nd : ¬ ((¬ hdI (sg r) < (48 : Int32)) ∧ (¬ (57 : Int32) < hdI (sg r))) := fun z => b (hdd.mp z)
      by_cases c6 : lq (sg r) = 6
      · -- nothing that begins an atom
        have nl : v_X12_letterOf (hdI (sg r)) = -1 := by rw [hlM, if_pos c6]
        refine ⟨Sum.inl (sg r).length, hsl, cls _ (fun d w code u hd hw hf hl => ?_), ref _ (fun d w cs u hd hw hf hl => ?_)⟩
        · refine s_X6_readsAtom_7 (by omega) w _ _ (fun _ => ?_) (fun z => absurd e91 z) (fun z => absurd e91 z)
          refine w_letters hlq hlC (fun _ => ?_) (fun z => absurd c6 (by omega))
          refine (ct_X9_takesNumber (by omega) hT hw.1 (D := 4) (by omega)).mono ?_
          rw [hss]
          rintro y v ⟨v1, ⟨v2, rfl, v3⟩ | ⟨v2, -⟩ | ⟨v2, -⟩⟩
          · exact ⟨_, rfl, s_X6_readsAtom_117 (by omega) v _ (fun z => absurd rfl z) (fun _ => ⟨(nu_lr v1).trans hf, rfl, v3.at⟩)⟩
          · rw [bF] at v2; cases v2
          · rw [bF] at v2; cases v2
        · obtain ⟨k1, k2, k3⟩ := hw.bad hT (B := cs.length + r.length + 8 * (6 - m)) (by omega)
          refine s_X12_atom_4 (by omega) w _ (fun _ _ _ => ?_) (fun _ _ z => absurd (fun y => e91 y) z) (fun _ z => absurd nl z) (fun _ z => absurd nl z) (fun _ z => absurd nl z) (fun z => absurd z nd)
          rw [k1]
          exact ⟨rfl, k3.trans hf, k2⟩
      · -- a letter
        have nl : ¬ v_X12_letterOf (hdI (sg r)) = -1 := by rw [hlM, if_neg c6]; exact n_m1 _
        have vl : v_X12_letterOf (hdI (sg r)) = nI (lq (sg r)) := by rw [hlM, if_neg c6]
        have hne : ∃ c t, sg r = c :: t := by
          cases q : sg r with
          | nil => rw [q] at c6; exact absurd rfl c6
          | cons c t => exact ⟨c, t, rfl⟩
        obtain ⟨c, t, ht⟩ := hne
        have htl : t.length + 1 ≤ r.length := by rw [ht] at hsl; exact hsl
        refine ⟨Sum.inr ([(1, lq (sg r))], t), ⟨by show 1 + t.length ≤ r.length; omega, by show t.length + 1 ≤ r.length; omega, fun c hc => sg_sub (by rw [ht]; exact List.mem_cons_of_mem _ hc), fun k hk => Or.inr (Or.inl ⟨rfl, by show lq (sg r) < 6; omega, by show k.length + 1 ≤ 60; omega, rfl⟩)⟩, cls _ (fun d w code u hd hw hf hl => ?_), ref _ (fun d w cs u hd hw hf hl => ?_)⟩
        · refine s_X6_readsAtom_7 (by omega) w _ _ (fun _ => ?_) (fun z => absurd e91 z) (fun z => absurd e91 z)
          refine w_letters hlq hlC (fun z => absurd z c6) (fun _ => ?_)
          rw [ht] at hw
          obtain ⟨n1, n2⟩ := hw.next hT
          refine (ct_X6_put (by omega) n1 (by omega) (a := 1) (by omega) (v := lq (sg r)) (by omega)).mono ?_
          rintro y x ⟨rfl, x1, x2⟩
          exact ⟨rfl, s_X6_readsAtom_101 (by omega) x ⟨x1.trans (n2.trans hf), rfl, x2⟩⟩
        · have hw' := hw
          rw [ht] at hw'
          obtain ⟨n1, n2⟩ := hw'.next hT
          obtain ⟨i1, i2⟩ := put_in hw.2.2.2 hn0 (by omega)
          refine s_X12_atom_4 (by omega) w _ (fun _ z => absurd z nl) (fun _ z => absurd z nl) (fun _ _ => i1) (fun _ _ => i2) (fun _ _ => ?_) (fun z => absurd z nd)
          rw [vl]
          have := put_eq n1.2.2.2 hn0 (by omega) 1 (nI (lq (sg r)))
          exact ⟨rfl, by rw [show (ax_ui (ax_ui (ax_ui (ax_ui w 0 3 (w.1 0 3 + 1)) 2 (Int32.toNatClampNeg ((520 : Int32) * w.1 0 14 + w.1 4 (Int32.toNatClampNeg (w.1 0 14)))) 1) 3 (Int32.toNatClampNeg ((520 : Int32) * w.1 0 14 + w.1 4 (Int32.toNatClampNeg (w.1 0 14)))) (nI (lq (sg r)))) 4 (Int32.toNatClampNeg (w.1 0 14)) (w.1 4 (Int32.toNatClampNeg (w.1 0 14)) + 1)) = pu (ax_ui w 0 3 (w.1 0 3 + 1)) n0 cs.length 1 (nI (lq (sg r))) from this]; exact (pu_fo _ _ _ _ _).trans (n2.trans hf), by rw [show (ax_ui (ax_ui (ax_ui (ax_ui w 0 3 (w.1 0 3 + 1)) 2 (Int32.toNatClampNeg ((520 : Int32) * w.1 0 14 + w.1 4 (Int32.toNatClampNeg (w.1 0 14)))) 1) 3 (Int32.toNatClampNeg ((520 : Int32) * w.1 0 14 + w.1 4 (Int32.toNatClampNeg (w.1 0 14)))) (nI (lq (sg r)))) 4 (Int32.toNatClampNeg (w.1 0 14)) (w.1 4 (Int32.toNatClampNeg (w.1 0 14)) + 1)) = pu (ax_ui w 0 3 (w.1 0 3 + 1)) n0 cs.length 1 (nI (lq (sg r))) from this]; exact n1.put 1 _⟩
