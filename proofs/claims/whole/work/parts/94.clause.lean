/-! ===== a clause, read ===== -/
theorem mLs.k {S : Nat → Nat → Prop} {T : List Nat} {n0 m : Nat} {u w : ax_S} {r : List Nat} {cs : List (Nat × Nat)} (h : mLs T n0 u r m cs) (hf : fk S w u) (hS : ∀ c i, S c i → 5 ≤ c) : mLs T n0 w r m cs := by
  have g : ∀ c i, c < 5 → w.1 c i = u.1 c i := fun c i hc => hf c i (fun z => absurd (hS c i z) (by omega))
  exact ⟨h.1.to hf (fun c i z => by have := hS c i z; omega), by rw [g 0 4 (by omega)]; exact h.2.1, by rw [g 0 5 (by omega)]; exact h.2.2.1, by rw [g 0 14 (by omega)]; exact h.2.2.2.1, by rw [g 4 n0 (by omega)]; exact h.2.2.2.2.1, fun i x hx => by rw [g 2 _ (by omega), g 3 _ (by omega)]; exact h.2.2.2.2.2 i x hx⟩
theorem cS.patch {T : List Nat} {w : ax_S} {r A B : List Nat} {x y : Nat} (h : cS T w r (A ++ [x] ++ B)) : cS T (ax_ui w 18 A.length (nI y)) r (A ++ [y] ++ B) := by
  have f : fo (fun c i => c = 18) (ax_ui w 18 A.length (nI y)) w := fo.rfl'.ui rfl
  refine ⟨h.1.to f.1 (by omega), ?_, fun i z hz => ?_⟩
  · rw [f.1 3 2 (by omega), h.2.1, List.length_append, List.length_append, List.length_append, List.length_append]; rfl
  · by_cases e : i = A.length
    · subst e
      rw [List.append_assoc, List.getElem?_append_right (Nat.le_refl _), Nat.sub_self] at hz
      have : y = z := Option.some.inj hz
      rw [ui_same, this]
    · rw [ui_idx e]
      refine h.2.2 i z ?_
      rw [← hz, List.append_assoc, List.append_assoc]
      by_cases e2 : i < A.length
      · rw [List.getElem?_append_left e2, List.getElem?_append_left e2]
      · rw [List.getElem?_append_right (l₁ := A) (by omega), List.getElem?_append_right (l₁ := A) (by omega)]
        obtain ⟨k, hk⟩ : ∃ k, i - A.length = k + 1 := ⟨i - A.length - 1, by omega⟩
        rw [hk]; rfl
theorem er1 {T : List Nat} {z : ax_S} {n0 k n : Nat} (hn : n0 ≤ 4) (hk : k < 140) (h14 : z.1 0 14 = nI n0) (a b : Int32) (h : wr T n z) : fo (lmG n0) (ax_ui (ax_ui z 8 (Int32.toNatClampNeg (nI (140 * n0 + k))) a) 5 (Int32.toNatClampNeg (z.1 0 14)) b) z ∧ wr T n (ax_ui (ax_ui z 8 (Int32.toNatClampNeg (nI (140 * n0 + k))) a) 5 (Int32.toNatClampNeg (z.1 0 14)) b) := by
  rw [h14, n_tn n0, n_tn (140 * n0 + k)]
  have f : fo (fun c i => (c = 8 ∧ i = 140 * n0 + k) ∨ (c = 5 ∧ i = n0)) (ax_ui (ax_ui z 8 (140 * n0 + k) a) 5 n0 b) z := (fo.rfl'.ui (by omega)).ui (by omega)
  exact ⟨f.mono (fun c i q => by unfold lmG; omega), by rw [f.1 0 4 (by omega)]; exact h.1, by rw [f.1 0 4 (by omega)]; exact h.2⟩
theorem er2 {T : List Nat} {z : ax_S} {n0 k n : Nat} (hn : n0 ≤ 4) (hk : k < 140) (h14 : z.1 0 14 = nI n0) (a b c : Int32) (h : wr T n z) : fo (lmG n0) (ax_ui (ax_ui (ax_ui z 7 (Int32.toNatClampNeg (nI (140 * n0 + k))) c) 8 (Int32.toNatClampNeg (nI (140 * n0 + k))) a) 5 (Int32.toNatClampNeg (z.1 0 14)) b) z ∧ wr T n (ax_ui (ax_ui (ax_ui z 7 (Int32.toNatClampNeg (nI (140 * n0 + k))) c) 8 (Int32.toNatClampNeg (nI (140 * n0 + k))) a) 5 (Int32.toNatClampNeg (z.1 0 14)) b) := by
  rw [h14, n_tn n0, n_tn (140 * n0 + k)]
  have f : fo (fun c i => ((c = 7 ∨ c = 8) ∧ i = 140 * n0 + k) ∨ (c = 5 ∧ i = n0)) (ax_ui (ax_ui (ax_ui z 7 (140 * n0 + k) c) 8 (140 * n0 + k) a) 5 n0 b) z := ((fo.rfl'.ui (by omega)).ui (by omega)).ui (by omega)
  exact ⟨f.mono (fun c i q => by unfold lmG; omega), by rw [f.1 0 4 (by omega)]; exact h.1, by rw [f.1 0 4 (by omega)]; exact h.2⟩
theorem mX.k7 {T : List Nat} {n0 : Nat} {u w : ax_S} {r : List Nat} {law : List tCl} {cs : List (Nat × Nat)} (h : mX T n0 u r law cs) (hf : fo (fun c i => lmF n0 c i ∨ c = 7 ∧ i = 140 * n0 + law.length) w u) : w.1 5 n0 = nI law.length ∧ TB w n0 0 0 law ∧ w.1 6 (140 * n0 + law.length) = nI (fla law).length :=
  ⟨by rw [hf.1 5 n0 (by unfold lmF; omega)]; exact h.2.1, h.2.2.1.to (fun c i hc hi => hf.1 c i (by unfold lmF; omega)), by rw [hf.1 6 _ (by unfold lmF; omega)]; exact h.2.2.2⟩
theorem x1_in {n0 k : Nat} (hn : n0 ≤ 4) (hk : k < 140) : vp_in (nI (140 * n0 + k)) 700 := n_in _ _
theorem n0_in {n0 : Nat} {v : ax_S} (hn : n0 ≤ 4) (h : v.1 0 14 = nI n0) : vp_in (v.1 0 14) 5 := by rw [h]; exact n_in _ _
theorem c37 {d : Nat} (hd : 0 ≤ d) {Q : Option ax_V → ax_S → Prop} {v : ax_S} {x1 x2 : Int32} (hx : ¬ x2 = 0) (i1 : vp_in x1 700) (i2 : vp_in (v.1 0 14) 5)
    (E : ¬ v.1 0 4 = -1 → Q none (ax_ui (ax_ui (ax_ui v 7 (Int32.toNatClampNeg x1) (v.1 6 (Int32.toNatClampNeg x1))) 8 (Int32.toNatClampNeg x1) (v.1 4 (Int32.toNatClampNeg (v.1 0 14)))) 5 (Int32.toNatClampNeg (v.1 0 14)) (v.1 5 (Int32.toNatClampNeg (v.1 0 14)) + 1)))
    (K : v.1 0 4 = -1 → ax_Ct shM d mX12_look [ax_r 0] (fun y w => ∃ x : Int32, y = some (ax_i x) ∧ ax_W shM (d + 1) mX12_clause Q 212 [some (ax_r 0), some (ax_i x1), none] (ax_i x :: []) w) (ax_ui v 7 (Int32.toNatClampNeg x1) (v.1 6 (Int32.toNatClampNeg x1)))) :
    ax_W shM (d + 1) mX12_clause Q 137 [some (ax_r 0), some (ax_i x1), some (ax_i x2)] [] v ∧ ax_W shM (d + 1) mX12_clause Q 184 [some (ax_r 0), some (ax_i x1), some (ax_i x2)] [] v :=
  ⟨s_X12_clause_137 hd v x1 x2 i1 (fun z => absurd z hx) (fun z => absurd z hx) (fun z => absurd z hx) (fun _ _ => i2) (fun _ _ => i1) (fun _ z => E z) (fun _ z => K (Classical.not_not.mp z)),
   s_X12_clause_184 hd v x1 x2 i1 (fun z => absurd z hx) (fun z => absurd z hx) (fun z => absurd z hx) (fun _ _ => i2) (fun _ _ => i1) (fun _ z => E z) (fun _ z => K (Classical.not_not.mp z))⟩
def PRt (qc : List (Nat × Nat)) (r : List Nat) (R : rC) : Prop := match R with
  | Sum.inl n => n ≤ r.length
  | Sum.inr p => p.1.1 = qc ∧ le_ok 60 p.1.2 [] [false] ∧ p.1.2.length + p.2.length + 1 ≤ r.length ∧ p.2.length + 2 ≤ r.length ∧ ∀ c ∈ p.2, c ∈ r
theorem cl_tail {T : List Nat} (hT : tkOk T) {n0 : Nat} (hn0 : n0 ≤ 4) {qc : List (Nat × Nat)} (hqc : ¬ qc = []) {r : List Nat} (hr : ∀ c ∈ r, c ≤ 255) : ∃ Rt : rC, PRt qc r Rt ∧
    (∀ d w code u, 41 ≤ d → cS T w r (code ++ lw_e qc) → fo lrS w u → code.length + qc.length + r.length + 1 ≤ 240 → ax_W shC (d + 1) mX6_readsClause (cQ2 T u code Rt) 89 [some (ax_r 3), none, none, none] [ax_i 1] w) ∧
    (∀ d w law u, 41 ≤ d → mX T n0 w r law (fla law ++ qc) → fo (lmG n0) w u → (fla law).length + qc.length + r.length ≤ 240 → law.length < 140 → ax_Ct shM d mX12_look [ax_r 0] (fun y v => ∃ x : Int32, y = some (ax_i x) ∧ ax_W shM (d + 1) mX12_clause (mQ2 T n0 u law Rt) 212 [some (ax_r 0), some (ax_i (nI (140 * n0 + law.length))), none] (ax_i x :: []) v) (ax_ui w 7 (Int32.toNatClampNeg (nI (140 * n0 + law.length))) (w.1 6 (Int32.toNatClampNeg (nI (140 * n0 + law.length)))))) := by
  have hsl := sg_len r
  have hs := sg_le hr
  have k63 := hdI_eq (r := sg r) (x := 63) hs (by omega)
  by_cases a : ∃ t, sg r = 63 :: t
  · have e63 : hdI (sg r) = (63 : Int32) := k63.mpr a
    have a' := a
    obtain ⟨t, ht⟩ := a
    have htl : t.length + 1 ≤ r.length := by rw [ht] at hsl; exact hsl
    have hts : ∀ c ∈ t, c ≤ 255 := fun c hc => hs c (by rw [ht]; exact List.mem_cons_of_mem _ hc)
    obtain ⟨R1, p1, c1, m1⟩ := sum_all hT hn0 t.length t (Nat.le_refl _) hts 0 (by omega)
    have cgo : ∀ d w code u (Q : Option ax_V → ax_S → Prop), 41 ≤ d → cS T w r (code ++ lw_e qc) → fo lrS w u → code.length + qc.length + r.length + 1 ≤ 240 → (∀ y x, cQ T u (code ++ lw_e qc ++ [12 + 16 * 0]) R1 y x → ∃ b : Int32, y = some (ax_i b) ∧ ax_W shC (d + 1) mX6_readsClause Q 123 [some (ax_r 3), none, none, some (ax_i (nI (code.length + qc.length)))] (ax_i b :: []) x) → ax_W shC (d + 1) mX6_readsClause Q 89 [some (ax_r 3), none, none, none] [ax_i 1] w := by
      intro d w code u Q hd hw hf hl K
      have hlen : (code ++ lw_e qc).length = code.length + qc.length := by rw [List.length_append, lw_e_len]
      refine s_X6_readsClause_89 (by omega) w _ (fun z => absurd z (by decide)) (fun _ => ?_)
      refine (ct_X9_takes (by omega) hT hw.1 (x := 63) (by omega)).mono ?_
      rintro y v ⟨v1, ⟨t2, v2, rfl, v3⟩ | ⟨v2, -, -⟩⟩
      · rw [ht] at v2
        have e2 : t = t2 := by cases v2; rfl
        have hv := hw.mv (at_nu v1) v3
        rw [← e2] at hv
        refine ⟨_, rfl, s_X6_readsClause_101 (by omega) v _ (fun _ => ?_) (fun z => absurd (show ¬ (1 : Int32) = 0 by decide) z)⟩
        rw [hv.2.1, hlen]
        refine (ct_X6_put (by omega) hv (by omega) (a := 12) (by omega) (v := 0) (by omega)).mono ?_
        rintro y x ⟨rfl, x1, x2⟩
        refine ⟨rfl, s_X6_readsClause_118 (by omega) x _ ?_⟩
        have hlen2 : (code ++ lw_e qc ++ [12 + 16 * 0]).length = code.length + qc.length + 1 := by rw [List.length_append, hlen]; rfl
        exact (c1 d x _ (by omega) x2 (by omega)).mono (fun y z hz => K y z ⟨hz.1.trans (x1.trans ((nu_lr (at_nu v1)).trans hf)), hz.2⟩)
      · exact absurd a' v2
    have mgo : ∀ d w law u (Q : Option ax_V → ax_S → Prop), 41 ≤ d → mX T n0 w r law (fla law ++ qc) → fo (lmG n0) w u → (fla law).length + qc.length + r.length ≤ 240 → law.length < 140 → (∀ s z, s.1 7 (140 * n0 + law.length) = nI (fla law ++ qc).length → fo (fun c i => lmF n0 c i ∨ c = 7 ∧ i = 140 * n0 + law.length) s w → mQ T n0 s 0 (fla law ++ qc) ((fla law ++ qc).length + t.length + (8 * (6 - 0) + 2)) R1 none z → ax_W shM (d + 1) mX12_clause Q 251 [some (ax_r 0), some (ax_i (nI (140 * n0 + law.length))), none] [] z) → ax_Ct shM d mX12_look [ax_r 0] (fun y v => ∃ x : Int32, y = some (ax_i x) ∧ ax_W shM (d + 1) mX12_clause Q 212 [some (ax_r 0), some (ax_i (nI (140 * n0 + law.length))), none] (ax_i x :: []) v) (ax_ui w 7 (Int32.toNatClampNeg (nI (140 * n0 + law.length))) (w.1 6 (Int32.toNatClampNeg (nI (140 * n0 + law.length))))) := by
      intro d w law u Q hd hw hf hl hk K
      have hlen : (fla law ++ qc).length = (fla law).length + qc.length := List.length_append
      rw [n_tn (140 * n0 + law.length)]
      have f7 : fo (fun c i => c = 7 ∧ i = 140 * n0 + law.length) (ax_ui w 7 (140 * n0 + law.length) (w.1 6 (140 * n0 + law.length))) w := fo.rfl'.ui ⟨rfl, rfl⟩
      have h7 := hw.1.k f7.1 (by omega)
      refine (ct_X12_look (by omega) hT h7.1).mono ?_
      rintro y v ⟨rfl, v1, v2⟩
      have hv := h7.mv v1 v2
      have h14 := hv.2.2.2.1
      have h4 := hv.2.2.2.2.1
      rw [ht] at hv
      obtain ⟨n1, n2⟩ := hv.next hT
      refine ⟨_, rfl, s_X12_clause_212 (by omega) v _ _ (fun _ => n0_in hn0 h14) (fun _ => x1_in hn0 hk) (fun _ => ?_) (fun z => absurd e63 z)⟩
      rw [n_tn (140 * n0 + law.length), h14, n_tn n0, h4]
      have f8 : fo (fun c i => c = 7 ∧ i = 140 * n0 + law.length) (ax_ui (ax_ui v 0 3 (v.1 0 3 + 1)) 7 (140 * n0 + law.length) (nI (fla law ++ qc).length)) (ax_ui v 0 3 (v.1 0 3 + 1)) := fo.rfl'.ui ⟨rfl, rfl⟩
      refine (m1 d _ (fla law ++ qc) (by omega) (n1.k f8.1 (by omega)) (by omega)).mono ?_
      intro y z hz
      refine ⟨hz.1, K _ z (ui_same _ _ _ _) ?_ ⟨rfl, hz.2⟩⟩
      exact (f8.mono (fun c i z => Or.inr z)).trans ((n2.mono (fun c i z => Or.inl z)).trans (((at_lm v1).mono (fun c i z => Or.inl z)).trans (f7.mono (fun c i z => Or.inr z))))
    have toG : ∀ {law : List tCl} {s w u : ax_S}, fo (fun c i => lmF n0 c i ∨ c = 7 ∧ i = 140 * n0 + law.length) s w → fo (lmG n0) w u → fo (lmG n0) s u := fun h1 h2 => (h1.mono (fun c i z => z.elim Or.inl (fun z => Or.inr (Or.inl ⟨by omega, by omega⟩)))).trans h2
    cases R1 with
    | inl n =>
      refine ⟨Sum.inl n, by have : n ≤ t.length := p1
                            show n ≤ r.length; omega, fun d w code u hd hw hf hl => ?_, fun d w law u hd hw hf hl hk => ?_⟩
      · refine cgo d w code u _ hd hw hf hl (fun y x hx => ?_)
        exact ⟨_, hx.2.1, s_X6_readsClause_123 (by omega) x _ _ (fun z => absurd rfl z) (fun _ => ⟨hx.1, rfl, hx.2.2⟩)⟩
      · refine mgo d w law u _ hd hw hf hl hk (fun s z h7 hsw hz => ?_)
        obtain ⟨-, f1, e1⟩ := hz
        obtain ⟨cs', hP, hcs⟩ := e1.2.2
        have E := er1 (T := T) (n := n) hn0 hk hP.1 (z.1 4 (Int32.toNatClampNeg (z.1 0 14))) (z.1 5 (Int32.toNatClampNeg (z.1 0 14)) + 1) ⟨e1.1, e1.2.1⟩
        exact s_X12_clause_251 (by omega) z _ (n0_in hn0 hP.1) (x1_in hn0 hk) ⟨rfl, E.1.trans ((F_G f1).trans (toG hsw hf)), E.2⟩
    | inr q =>
      obtain ⟨q1, q2, q4, q3⟩ := p1
      refine ⟨Sum.inr ((qc, q.1), q.2), ⟨rfl, q3 [] (by exact Nat.zero_le _), by show q.1.length + q.2.length + 1 ≤ r.length; omega, by show q.2.length + 2 ≤ r.length; omega, fun c hc => sg_sub (by rw [ht]; exact List.mem_cons_of_mem _ (q4 c hc))⟩, fun d w code u hd hw hf hl => ?_, fun d w law u hd hw hf hl hk => ?_⟩
      · refine cgo d w code u _ hd hw hf hl (fun y x hx => ?_)
        have hlen : (code ++ lw_e qc).length = code.length + qc.length := by rw [List.length_append, lw_e_len]
        have hlen2 : (code ++ lw_e qc ++ [12 + 16 * 0] ++ lw_e q.1).length = code.length + qc.length + 1 + q.1.length := by rw [List.length_append, List.length_append, hlen, lw_e_len]; rfl
        refine ⟨_, hx.2.1, s_X6_readsClause_123 (by omega) x _ _ (fun _ => ?_) (fun z => absurd (show ¬ (1 : Int32) = 0 by decide) z)⟩
        refine (ct_X6_put (by omega) hx.2.2 (by omega) (a := 13) (by omega) (v := 0) (by omega)).mono ?_
        rintro y v ⟨rfl, v1, v2⟩
        have hlen3 : (code ++ lw_e qc ++ [12 + 16 * 0] ++ lw_e q.1 ++ [13 + 16 * 0]).length = code.length + qc.length + 1 + q.1.length + 1 := by rw [List.length_append, hlen2]; rfl
        have g : ¬ (Int32.ofNat 240) ≤ nI (code.length + qc.length) := fun z => absurd ((n_le 240 (code.length + qc.length)).mp z) (by omega)
        refine ⟨rfl, s_X6_readsClause_135 (by omega) v _ (fun z => absurd z g) (fun _ => n_in _ _) (fun _ => ⟨(fo.rfl'.ui (Or.inr (Or.inr rfl))).trans (v1.trans hx.1), rfl, ?_⟩)⟩
        rw [v2.2.1, hlen3, n_tn (code.length + qc.length)]
        rw [show ((12 : Int32) ||| (nI (code.length + qc.length + 1 + q.1.length + 1) <<< ((4 : Int32) &&& 31))) = nI (12 + 16 * (code.length + qc.length + 1 + q.1.length + 1)) from n_put (a := 12) (by omega) (by omega)]
        have v3 : cS T v q.2 (code ++ lw_e qc ++ [12 + 16 * 0] ++ (lw_e q.1 ++ [13 + 16 * 0])) := by rw [← List.append_assoc]; exact v2
        have v4 := v3.patch (y := 12 + 16 * (code.length + qc.length + 1 + q.1.length + 1))
        rw [hlen] at v4
        have e : code ++ lw_cl code.length (qc, q.1) = code ++ lw_e qc ++ [12 + 16 * (code.length + qc.length + 1 + q.1.length + 1)] ++ (lw_e q.1 ++ [13 + 16 * 0]) := by
          unfold lw_cl
          rw [if_neg hqc, List.append_assoc, List.append_assoc, List.append_assoc]
        show cS T _ q.2 (code ++ lw_cl code.length (qc, q.1))
        rw [e]; exact v4
      · refine mgo d w law u _ hd hw hf hl hk (fun s z h7 hsw hz => ?_)
        obtain ⟨-, f1, e1⟩ := hz
        have hP := e1.2.2.2
        have fz : fo (fun c i => lmF n0 c i ∨ c = 7 ∧ i = 140 * n0 + law.length) z w := (f1.mono (fun c i z => Or.inl z)).trans hsw
        obtain ⟨h5, hTB, h6⟩ := hw.k7 fz
        refine s_X12_clause_251 (by omega) z _ (n0_in hn0 hP.1) (x1_in hn0 hk) ?_
        rw [fn_eq hn0 hk hP h5]
        refine ⟨rfl, fn_G (toG fz hf), fn_W (cl := (qc, q.1)) e1 (List.append_assoc _ _ _) h5 hTB h6 ?_⟩
        rw [f1.1 7 _ (by unfold lmF; omega), h7, List.length_append]
  · refine ⟨Sum.inl (sg r).length, hsl, fun d w code u hd hw hf hl => ?_, fun d w law u hd hw hf hl hk => ?_⟩
    · refine s_X6_readsClause_89 (by omega) w _ (fun z => absurd z (by decide)) (fun _ => ?_)
      refine (ct_X9_takes (by omega) hT hw.1 (x := 63) (by omega)).mono ?_
      rintro y v ⟨v1, ⟨t, v2, -, -⟩ | ⟨v2, rfl, v3⟩⟩
      · exact absurd ⟨t, v2⟩ a
      · exact ⟨_, rfl, s_X6_readsClause_101 (by omega) v _ (fun z => absurd rfl z) (fun _ => ⟨(nu_lr (at_nu v1)).trans hf, rfl, v3.at⟩)⟩
    · have hlen : (fla law ++ qc).length = (fla law).length + qc.length := List.length_append
      rw [n_tn (140 * n0 + law.length)]
      have f7 : fo (fun c i => c = 7 ∧ i = 140 * n0 + law.length) (ax_ui w 7 (140 * n0 + law.length) (w.1 6 (140 * n0 + law.length))) w := fo.rfl'.ui ⟨rfl, rfl⟩
      have h7 := hw.1.k f7.1 (by omega)
      refine (ct_X12_look (by omega) hT h7.1).mono ?_
      rintro y v ⟨rfl, v1, v2⟩
      have hv := h7.mv v1 v2
      obtain ⟨k1, k2, k3⟩ := hv.bad hT (B := 240) (by omega)
      refine ⟨_, rfl, s_X12_clause_212 (by omega) v _ _ (fun z => absurd (k63.mp z) a) (fun z => absurd (k63.mp z) a) (fun z => absurd (k63.mp z) a) (fun _ => ?_)⟩
      rw [k1]
      exact ⟨rfl, (F_G k3).trans ((F_G (at_lm v1)).trans ((f7.mono (fun c i z => by unfold lmG; omega)).trans hf)), k2.1, k2.2.1⟩
/-- readsClause, clause -/
theorem nt_clause {T : List Nat} (hT : tkOk T) {n0 : Nat} (hn0 : n0 ≤ 4) {r : List Nat} (hr : ∀ c ∈ r, c ≤ 255) : ∃ Rc : rC, PR2 r Rc ∧
    (∀ d u code, 42 ≤ d → cS T u r code → code.length + r.length ≤ 240 → ax_Ct shC d mX6_readsClause [ax_r 3] (cQ2 T u code Rc) u) ∧
    (∀ d u law, 42 ≤ d → mW T n0 u r law → (fla law).length + r.length ≤ 240 → law.length < 140 → ax_Ct shM d mX12_clause [ax_r 0] (mQ2 T n0 u law Rc) u) := by
  have hTl := hT.1
  have hsl := sg_len r
  have hs := sg_le hr
  have k121 := hdI_eq (r := sg r) (x := 121) hs (by omega)
  have ex : ∀ {u : ax_S} {law : List tCl}, mW T n0 u r law → (140 : Int32) * u.1 0 14 + u.1 5 (Int32.toNatClampNeg (u.1 0 14)) = nI (140 * n0 + law.length) := by
    intro u law h
    rw [h.1.2.2.2.1, n_tn n0, h.2.1, show (140 : Int32) * nI n0 = nI (140 * n0) from n_mul 140 n0, n_add]
  have ref0 : ∀ d u law (Q : Option ax_V → ax_S → Prop), 41 ≤ d → mW T n0 u r law → law.length < 140 → (∀ w, mW T n0 w (sg r) law → fo (lmG n0) w u → ax_W shM (d + 1) mX12_clause Q 31 [some (ax_r 0), some (ax_i (nI (140 * n0 + law.length))), none] [ax_i (hdI (sg r))] w) → ax_Ct shM (d + 1) mX12_clause [ax_r 0] Q u := by
    intro d u law Q hd hu hk K
    refine ax_Ct.of (lv := [some (ax_r 0), none, none]) (by decide +kernel) (fun ad => Nat.le_of_ble_eq_true rfl) (fun ad => rfl) ?_
    refine s_X12_clause_0 (by omega) u (n0_in hn0 hu.1.2.2.2.1) (fun z => absurd hu.1.2.1 z) (fun z => absurd hu.1.2.1 z) (fun z => absurd hu.1.2.1 z) (fun z => absurd hu.1.2.1 z) (fun _ => ?_)
    rw [ex hu]
    refine (ct_X12_look (by omega) hT hu.1.1).mono ?_
    rintro y w ⟨rfl, w1, w2⟩
    refine ⟨_, rfl, K w ⟨hu.1.mv w1 w2, by rw [w1.1 5 n0 (by unfold atM; omega)]; exact hu.2.1, hu.2.2.to (fun c i hc _ => w1.1 c i (by unfold atM; omega))⟩ (F_G (at_lm w1))⟩
  by_cases a1 : ∃ t, sg r = 121 :: t
  case neg =>
    refine ⟨Sum.inl (sg r).length, hsl, fun d u code hd hu hl => ?_, fun d u law hd hu hl hk => ?_⟩
    · obtain ⟨d, rfl⟩ : ∃ e, d = e + 1 := ⟨d - 1, by omega⟩
      refine ax_Ct.of (lv := [some (ax_r 3), none, none, none]) (by decide +kernel) (fun ad => Nat.le_of_ble_eq_true rfl) (fun ad => rfl) ?_
      refine s_X6_readsClause_0 (by omega) u ?_
      refine (ct_X9_takes (by omega) hT hu.1 (x := 121) (by omega)).mono ?_
      rintro y v ⟨v1, ⟨t, v2, -, -⟩ | ⟨v2, rfl, v3⟩⟩
      · exact absurd ⟨t, v2⟩ a1
      · exact ⟨_, rfl, s_X6_readsClause_9 (by omega) v _ (fun _ => ⟨nu_lr (at_nu v1), rfl, v3.at⟩) (fun z => absurd rfl z)⟩
    · obtain ⟨d, rfl⟩ : ∃ e, d = e + 1 := ⟨d - 1, by omega⟩
      refine ref0 d u law _ (by omega) hu hk (fun w hw hf => ?_)
      have n1 : ¬ hdI (sg r) = (121 : Int32) := fun z => a1 (k121.mp z)
      have ei : (if (¬ w.1 0 4 = (-1 : Int32)) then w.1 0 4 else w.1 0 3) = nI (T.length - (sg r).length) := by rw [if_neg (not_not_intro hw.1.2.1), hw.1.1.at]
      have ne := n_m1 (T.length - (sg r).length)
      refine s_X12_clause_31 (by omega) w _ _ (fun z => absurd z n1) (fun z => absurd z n1) (fun z => absurd z n1) (fun z => absurd z n1) (fun z => absurd z n1) ?_ ?_ ?_ ?_ ?_
      · rw [ei]; exact fun _ _ z => absurd z ne
      · rw [ei]; exact fun _ _ z => absurd z ne
      · rw [ei]; exact fun _ _ z => absurd z ne
      · rw [ei]
        intro _ _ _
        have f : fo (fun c i => c = 0 ∧ i = 3) (ax_ui (ax_ui (ax_ui w 0 4 (nI (T.length - (sg r).length))) 0 3 (w.1 0 3 + 1)) 0 3 (w.1 0 3 + 1 + 1)) (ax_ui w 0 4 (nI (T.length - (sg r).length))) := (fo.rfl'.ui (by omega)).ui (by omega)
        have f2 : fo (fun c i => c = 0 ∧ i = 4) (ax_ui w 0 4 (nI (T.length - (sg r).length))) w := fo.rfl'.ui (by omega)
        refine ⟨rfl, (f.mono (fun c i z => by unfold lmG lmF; omega)).trans ((f2.mono (fun c i z => by unfold lmG lmF; omega)).trans hf), ?_, ?_⟩
        · rw [f.1 0 4 (by omega), ui_same]
        · rw [f.1 0 4 (by omega), ui_same]; exact ne
      · rw [ei]; exact fun _ z => absurd ne z
  have e121 : hdI (sg r) = (121 : Int32) := k121.mpr a1
  have a1' := a1
  obtain ⟨t1, ht1⟩ := a1
  have ht1l : t1.length + 1 ≤ r.length := by rw [ht1] at hsl; exact hsl
  have ht1s : ∀ c ∈ t1, c ≤ 255 := fun c hc => hs c (by rw [ht1]; exact List.mem_cons_of_mem _ hc)
  have hsl1 := sg_len t1
  have hs1 := sg_le ht1s
  have k58 := hdI_eq (r := sg t1) (x := 58) hs1 (by omega)
  have cls1 : ∀ d u code (Q : Option ax_V → ax_S → Prop), 41 ≤ d → cS T u r code → (∀ y v, fo lrS v u → (((∃ t, sg t1 = 58 :: t ∧ y = some (ax_i 1) ∧ cS T v t code) ∨ ((¬ ∃ t, sg t1 = 58 :: t) ∧ y = some (ax_i 0) ∧ cS T v (sg t1) code))) → ∃ b : Int32, y = some (ax_i b) ∧ ax_W shC (d + 1) mX6_readsClause Q 21 [some (ax_r 3), none, none, none] (ax_i b :: []) v) → ax_Ct shC (d + 1) mX6_readsClause [ax_r 3] Q u := by
    intro d u code Q hd hu K
    refine ax_Ct.of (lv := [some (ax_r 3), none, none, none]) (by decide +kernel) (fun ad => Nat.le_of_ble_eq_true rfl) (fun ad => rfl) ?_
    refine s_X6_readsClause_0 (by omega) u ?_
    refine (ct_X9_takes (by omega) hT hu.1 (x := 121) (by omega)).mono ?_
    rintro y v ⟨v1, ⟨t2, v2, rfl, v3⟩ | ⟨v2, -, -⟩⟩
    · rw [ht1] at v2
      have e2 : t1 = t2 := by cases v2; rfl
      have hv := hu.mv (at_nu v1) v3
      rw [← e2] at hv
      refine ⟨_, rfl, s_X6_readsClause_9 (by omega) v _ (fun z => absurd z (by decide)) (fun _ => ?_)⟩
      refine (ct_X9_takes (by omega) hT hv.1 (x := 58) (by omega)).mono ?_
      rintro y x ⟨x1, ⟨t3, x2, x3, x4⟩ | ⟨x2, x3, x4⟩⟩
      · exact K y x ((nu_lr (at_nu x1)).trans (nu_lr (at_nu v1))) (Or.inl ⟨t3, x2, x3, hv.mv (at_nu x1) x4⟩)
      · exact K y x ((nu_lr (at_nu x1)).trans (nu_lr (at_nu v1))) (Or.inr ⟨x2, x3, hv.mv (at_nu x1) x4⟩)
    · exact absurd a1' v2
  have ref1 : ∀ d u law (Q : Option ax_V → ax_S → Prop), 41 ≤ d → mW T n0 u r law → law.length < 140 → (∀ w, mW T n0 w (sg t1) law → fo (lmG n0) w u → ax_W shM (d + 1) mX12_clause Q 62 [some (ax_r 0), some (ax_i (nI (140 * n0 + law.length))), none] [ax_i (hdI (sg t1))] w) → ax_Ct shM (d + 1) mX12_clause [ax_r 0] Q u := by
    intro d u law Q hd hu hk K
    refine ref0 d u law Q hd hu hk (fun w hw hf => ?_)
    have hw4 := hw.1.2.1
    have hwl := hw.1
    rw [ht1] at hwl
    obtain ⟨n1, n2⟩ := hwl.next hT
    refine s_X12_clause_31 (by omega) w _ _ (fun _ z => absurd hw4 z) (fun _ z => absurd hw4 z) (fun _ z => absurd hw4 z) (fun _ z => absurd hw4 z) (fun _ _ => ?_) (fun z => absurd e121 z) (fun z => absurd e121 z) (fun z => absurd e121 z) (fun z => absurd e121 z) (fun z => absurd e121 z)
    refine (ct_X12_look (by omega) hT n1.1).mono ?_
    rintro y v ⟨rfl, w1, w2⟩
    have f : fo (fun c i => c = 0 ∧ i = 3) v w := (w1.mono (fun c i z => z)).trans (fo.rfl'.ui ⟨rfl, rfl⟩)
    refine ⟨_, rfl, K v ⟨n1.mv w1 w2, by rw [f.1 5 n0 (by omega)]; exact hw.2.1, hw.2.2.to (fun c i hc _ => f.1 c i (by omega))⟩ ((F_G (at_lm w1)).trans ((F_G n2).trans hf))⟩
  by_cases a2 : ∃ t, sg t1 = 58 :: t
  case neg =>
    refine ⟨Sum.inl (sg t1).length, by show (sg t1).length ≤ r.length; omega, fun d u code hd hu hl => ?_, fun d u law hd hu hl hk => ?_⟩
    · obtain ⟨d, rfl⟩ : ∃ e, d = e + 1 := ⟨d - 1, by omega⟩
      refine cls1 d u code _ (by omega) hu ?_
      rintro y v hf (⟨t, v2, -, -⟩ | ⟨-, rfl, v3⟩)
      · exact absurd ⟨t, v2⟩ a2
      · exact ⟨_, rfl, s_X6_readsClause_21 (by omega) v _ (fun z => absurd rfl z) (fun _ => ⟨hf, rfl, v3.1.at⟩)⟩
    · obtain ⟨d, rfl⟩ : ∃ e, d = e + 1 := ⟨d - 1, by omega⟩
      refine ref1 d u law _ (by omega) hu hk (fun w hw hf => ?_)
      have n1 : ¬ hdI (sg t1) = (58 : Int32) := fun z => a2 (k58.mp z)
      have ei : (if (¬ w.1 0 4 = (-1 : Int32)) then w.1 0 4 else w.1 0 3) = nI (T.length - (sg t1).length) := by rw [if_neg (not_not_intro hw.1.2.1), hw.1.1.at]
      have ne := n_m1 (T.length - (sg t1).length)
      refine s_X12_clause_62 (by omega) w _ _ (fun z => absurd z n1) (fun z => absurd z n1) (fun z => absurd z n1) (fun z => absurd z n1) ?_ ?_ ?_ ?_
      · rw [ei]; exact fun _ z => absurd z ne
      · rw [ei]; exact fun _ z => absurd z ne
      · rw [ei]; exact fun _ z => absurd z ne
      · rw [ei]
        intro _ _
        have f : fo (fun c i => c = 0 ∧ i = 3) (ax_ui (ax_ui w 0 4 (nI (T.length - (sg t1).length))) 0 3 (w.1 0 3 + 1)) (ax_ui w 0 4 (nI (T.length - (sg t1).length))) := fo.rfl'.ui (by omega)
        have f2 : fo (fun c i => c = 0 ∧ i = 4) (ax_ui w 0 4 (nI (T.length - (sg t1).length))) w := fo.rfl'.ui (by omega)
        refine ⟨rfl, (f.mono (fun c i z => by unfold lmG lmF; omega)).trans ((f2.mono (fun c i z => by unfold lmG lmF; omega)).trans hf), ?_, ?_⟩
        · rw [f.1 0 4 (by omega), ui_same]
        · rw [f.1 0 4 (by omega), ui_same]; exact ne
  have e58 : hdI (sg t1) = (58 : Int32) := k58.mpr a2
  have a2' := a2
  obtain ⟨t2, ht2⟩ := a2
  have ht2l : t2.length + 1 ≤ t1.length := by rw [ht2] at hsl1; exact hsl1
  have ht2s : ∀ c ∈ t2, c ≤ 255 := fun c hc => hs1 c (by rw [ht2]; exact List.mem_cons_of_mem _ hc)
  have t2in : ∀ c ∈ t2, c ∈ r := fun c hc => sg_sub (by rw [ht1]; exact List.mem_cons_of_mem _ (sg_sub (by rw [ht2]; exact List.mem_cons_of_mem _ hc)))
  have hsl2 := sg_len t2
  have hss2 := sg_sg t2
  have hs2 := sg_le ht2s
  have k33 := hdI_eq (r := sg t2) (x := 33) hs2 (by omega)
  have k40 := hdI_eq (r := sg t2) (x := 40) hs2 (by omega)
  have cls : ∀ (R : rC), (∀ d w code u, 41 ≤ d → cS T w (sg t2) code → fo lrS w u → code.length + r.length ≤ 240 → ax_W shC (d + 1) mX6_readsClause (cQ2 T u code R) 33 [some (ax_r 3), none, none, none] [ax_i (hdI (sg t2))] w) → (∀ d u code, 42 ≤ d → cS T u r code → code.length + r.length ≤ 240 → ax_Ct shC d mX6_readsClause [ax_r 3] (cQ2 T u code R) u) := by
    intro R K d u code hd hu hl
    obtain ⟨d, rfl⟩ : ∃ e, d = e + 1 := ⟨d - 1, by omega⟩
    refine cls1 d u code _ (by omega) hu ?_
    rintro y v hf (⟨t, v2, rfl, v3⟩ | ⟨v2, -, -⟩)
    · rw [ht2] at v2
      have e2 : t2 = t := by cases v2; rfl
      rw [← e2] at v3
      refine ⟨_, rfl, s_X6_readsClause_21 (by omega) v _ (fun _ => ?_) (fun z => absurd (show ¬ (1 : Int32) = 0 by decide) z)⟩
      refine (ct_X9_sign (by omega) hT v3.1).mono ?_
      rintro y w ⟨rfl, w1, w2⟩
      exact ⟨_, rfl, K d w code u (by omega) (v3.mv (at_nu w1) w2) ((nu_lr (at_nu w1)).trans hf) hl⟩
    · exact absurd a2' v2
  have ref : ∀ (R : rC), (∀ d w law u, 41 ≤ d → mX T n0 w (sg t2) law (fla law) → fo (lmG n0) w u → (fla law).length + r.length ≤ 240 → law.length < 140 → ax_W shM (d + 1) mX12_clause (mQ2 T n0 u law R) 109 [some (ax_r 0), some (ax_i (nI (140 * n0 + law.length))), none] [ax_i (hdI (sg t2))] w) → (∀ d u law, 42 ≤ d → mW T n0 u r law → (fla law).length + r.length ≤ 240 → law.length < 140 → ax_Ct shM d mX12_clause [ax_r 0] (mQ2 T n0 u law R) u) := by
    intro R K d u law hd hu hl hk
    obtain ⟨d, rfl⟩ : ∃ e, d = e + 1 := ⟨d - 1, by omega⟩
    refine ref1 d u law _ (by omega) hu hk (fun w hw hf => ?_)
    have hwl := hw.1
    have h14 := hwl.2.2.2.1
    have h4 := hwl.2.2.2.2.1
    rw [ht2] at hwl
    obtain ⟨n1, n2⟩ := hwl.next hT
    refine s_X12_clause_62 (by omega) w _ _ (fun _ _ => n0_in hn0 h14) (fun _ _ => x1_in hn0 hk) (fun _ _ => ?_) (fun _ z => absurd hwl.2.1 z) (fun z => absurd e58 z) (fun z => absurd e58 z) (fun z => absurd e58 z) (fun z => absurd e58 z)
    rw [n_tn (140 * n0 + law.length), h14, n_tn n0, h4]
    have f6 : fo (fun c i => c = 6 ∧ i = 140 * n0 + law.length) (ax_ui (ax_ui w 0 3 (w.1 0 3 + 1)) 6 (140 * n0 + law.length) (nI (fla law).length)) (ax_ui w 0 3 (w.1 0 3 + 1)) := fo.rfl'.ui ⟨rfl, rfl⟩
    have n3 := n1.k f6.1 (by omega)
    refine (ct_X12_look (by omega) hT n3.1).mono ?_
    rintro y v ⟨rfl, w1, w2⟩
    have f : fo (fun c i => (c = 0 ∧ i = 3) ∨ (c = 6 ∧ i = 140 * n0 + law.length)) v w := (w1.mono (fun c i z => Or.inl z)).trans ((f6.mono (fun c i z => Or.inr z)).trans (fo.rfl'.ui (Or.inl ⟨rfl, rfl⟩)))
    refine ⟨_, rfl, K d v law u (by omega) ⟨n3.mv w1 w2, by rw [f.1 5 n0 (by omega)]; exact hw.2.1, hw.2.2.to (fun c i hc hi => f.1 c i (by omega)), ?_⟩ ((f.mono (fun c i z => by unfold lmG lmF; omega)).trans hf) hl hk⟩
    rw [w1.1 6 _ (by unfold atM; omega), ui_same]
  by_cases a3 : hdI (sg t2) = (33 : Int32) ∨ hdI (sg t2) = (40 : Int32)
  · -- a condition
    have g3 : ¬ ((¬ hdI (sg t2) = (33 : Int32)) ∧ (¬ hdI (sg t2) = (40 : Int32))) := fun z => a3.elim z.1 z.2
    obtain ⟨R1, p1, c1, m1⟩ := (cond_all hT hn0 (sg t2).length (sg t2) (Nat.le_refl _) hs2 0 (by omega)).2
    have cgo : ∀ d w code u (Q : Option ax_V → ax_S → Prop), 41 ≤ d → cS T w (sg t2) code → fo lrS w u → code.length + r.length ≤ 240 → (∀ y v, cQ T u code R1 y v → ∃ b : Int32, y = some (ax_i b) ∧ ax_W shC (d + 1) mX6_readsClause Q 89 [some (ax_r 3), none, none, none] (ax_i b :: []) v) → ax_W shC (d + 1) mX6_readsClause Q 33 [some (ax_r 3), none, none, none] [ax_i (hdI (sg t2))] w := by
      intro d w code u Q hd hw hf hl K
      refine s_X6_readsClause_33 (by omega) w _ (fun _ => ?_) (fun z => absurd z g3)
      rw [if_neg g3]
      exact (c1 d w code (by omega) hw (by omega)).mono (fun y v hv => K y v ⟨hv.1.trans hf, hv.2⟩)
    have mgo : ∀ d w law u (Q : Option ax_V → ax_S → Prop), 41 ≤ d → mX T n0 w (sg t2) law (fla law) → fo (lmG n0) w u → (fla law).length + r.length ≤ 240 → (∀ v (x2 : Int32), ¬ x2 = 0 → mQ T n0 w 0 (fla law) ((fla law).length + (sg t2).length + (8 * (6 - 0) + 6)) R1 none v → ax_W shM (d + 1) mX12_clause Q 137 [some (ax_r 0), some (ax_i (nI (140 * n0 + law.length))), some (ax_i x2)] [] v) → ax_W shM (d + 1) mX12_clause Q 109 [some (ax_r 0), some (ax_i (nI (140 * n0 + law.length))), none] [ax_i (hdI (sg t2))] w := by
      intro d w law u Q hd hw hf hl K
      refine s_X12_clause_109 (by omega) w _ _ (fun _ z => absurd z (by decide)) (fun _ _ => ?_) (fun z => ?_)
      · exact (m1 d w _ (by omega) hw.1 (by omega)).mono (fun y v hv => ⟨hv.1, K v _ (by decide) ⟨rfl, hv.2⟩⟩)
      · refine (ct_X12_look (by omega) hT hw.1.1).mono ?_
        rintro y v ⟨rfl, w1, w2⟩
        rw [hss2] at w2
        have e40 : hdI (sg t2) = (40 : Int32) := a3.resolve_left z
        rw [hss2]
        refine ⟨_, rfl, s_X12_clause_118 (by omega) v _ _ (fun z => absurd (fun q => q e40) z) (fun z => ?_)⟩
        rw [if_pos z]
        exact (m1 d v _ (by omega) (hw.1.mv w1 w2) (by omega)).mono (fun y x hx => ⟨hx.1, K x _ (by decide) ⟨rfl, hx.2.1.trans (at_lm w1), hx.2.2⟩⟩)
    cases R1 with
    | inl n =>
      refine ⟨Sum.inl n, by have : n ≤ (sg t2).length := p1
                            show n ≤ r.length; omega, cls _ (fun d w code u hd hw hf hl => ?_), ref _ (fun d w law u hd hw hf hl hk => ?_)⟩
      · exact cgo d w code u _ hd hw hf hl (fun y v hv => ⟨_, hv.2.1, s_X6_readsClause_89 (by omega) v _ (fun _ => ⟨hv.1, rfl, hv.2.2⟩) (fun z => absurd rfl z)⟩)
      · refine mgo d w law u _ hd hw hf hl (fun v x2 hx hv => ?_)
        obtain ⟨-, f1, e1⟩ := hv
        obtain ⟨cs', hP, hcs⟩ := e1.2.2
        refine (c37 (by omega) hx (x1_in hn0 hk) (n0_in hn0 hP.1) (fun _ => ?_) (fun z => absurd z e1.2.1)).1
        have E := er2 (T := T) (n := n) hn0 hk hP.1 (v.1 4 (Int32.toNatClampNeg (v.1 0 14))) (v.1 5 (Int32.toNatClampNeg (v.1 0 14)) + 1) (v.1 6 (Int32.toNatClampNeg (nI (140 * n0 + law.length)))) ⟨e1.1, e1.2.1⟩
        exact ⟨rfl, E.1.trans ((F_G f1).trans hf), E.2⟩
    | inr q =>
      obtain ⟨q1, q2, q4, q3⟩ := p1
      have qne : ¬ q.1 = [] := fun z => by have h := q3 [] (by exact Nat.zero_le _); rw [z] at h; exact absurd h (by simp [le_ok])
      obtain ⟨Rt, pt, ct, mt⟩ := cl_tail hT hn0 qne (r := q.2) (fun c hc => hs2 c (q4 c hc))
      refine ⟨Rt, ?_, cls _ (fun d w code u hd hw hf hl => ?_), ref _ (fun d w law u hd hw hf hl hk => ?_)⟩
      · cases Rt with
        | inl n => have : n ≤ q.2.length := pt
                   show n ≤ r.length; omega
        | inr p =>
          obtain ⟨x1, x2, x3, x4, x5⟩ := pt
          refine ⟨⟨Or.inr (by rw [x1]; exact q3 [] (by exact Nat.zero_le _)), x2⟩, fun o => ?_, ?_, ?_, fun c hc => t2in c (sg_sub (q4 c (x5 c hc)))⟩
          · show (lw_cl o p.1).length + p.2.length ≤ r.length
            rw [cl_len, x1, if_neg qne]; omega
          · show p.1.1.length + p.1.2.length + p.2.length ≤ r.length
            rw [x1]; omega
          · show p.2.length + 3 ≤ r.length; omega
      · refine cgo d w code u _ hd hw hf hl (fun y v hv => ⟨_, hv.2.1, ?_⟩)
        exact ct d v code u hd hv.2.2 hv.1 (by omega)
      · refine mgo d w law u _ hd hw hf hl (fun v x2 hx hv => ?_)
        obtain ⟨-, f1, e1⟩ := hv
        refine (c37 (by omega) hx (x1_in hn0 hk) (n0_in hn0 e1.2.2.2.1) (fun z => absurd e1.2.1 z) (fun _ => ?_)).1
        exact mt d v law u hd (hw.to f1 e1) ((F_G f1).trans hf) (by omega) hk
  · -- a sum first
    have n33 : ¬ hdI (sg t2) = (33 : Int32) := fun z => a3 (Or.inl z)
    have n40 : ¬ hdI (sg t2) = (40 : Int32) := fun z => a3 (Or.inr z)
    obtain ⟨R1, p1, c1, m1⟩ := sum_all hT hn0 (sg t2).length (sg t2) (Nat.le_refl _) hs2 0 (by omega)
    have cgo : ∀ d w code u (Q : Option ax_V → ax_S → Prop), 41 ≤ d → cS T w (sg t2) code → fo lrS w u → code.length + r.length ≤ 240 → (∀ y v, cQ T u code R1 y v → ∃ b : Int32, y = some (ax_i b) ∧ ax_W shC (d + 1) mX6_readsClause Q 61 [some (ax_r 3), none, some (ax_i 1), none] (ax_i b :: []) v) → ax_W shC (d + 1) mX6_readsClause Q 33 [some (ax_r 3), none, none, none] [ax_i (hdI (sg t2))] w := by
      intro d w code u Q hd hw hf hl K
      refine s_X6_readsClause_33 (by omega) w _ (fun z => absurd ⟨n33, n40⟩ z) (fun z => ?_)
      rw [if_pos z]
      exact (c1 d w code (by omega) hw (by omega)).mono (fun y v hv => K y v ⟨hv.1.trans hf, hv.2⟩)
    have mgo : ∀ d w law u (Q : Option ax_V → ax_S → Prop), 41 ≤ d → mX T n0 w (sg t2) law (fla law) → fo (lmG n0) w u → (fla law).length + r.length ≤ 240 → (∀ v, mQ T n0 w 0 (fla law) ((fla law).length + (sg t2).length + (8 * (6 - 0) + 2)) R1 none v → ax_W shM (d + 1) mX12_clause Q 144 [some (ax_r 0), some (ax_i (nI (140 * n0 + law.length))), none] [] v) → ax_W shM (d + 1) mX12_clause Q 109 [some (ax_r 0), some (ax_i (nI (140 * n0 + law.length))), none] [ax_i (hdI (sg t2))] w := by
      intro d w law u Q hd hw hf hl K
      refine s_X12_clause_109 (by omega) w _ _ (fun z => absurd z n33) (fun z => absurd z n33) (fun _ => ?_)
      refine (ct_X12_look (by omega) hT hw.1.1).mono ?_
      rintro y v ⟨rfl, w1, w2⟩
      rw [hss2] at w2
      rw [hss2]
      refine ⟨_, rfl, s_X12_clause_118 (by omega) v _ _ (fun _ => ?_) (fun z => absurd n40 z)⟩
      exact (m1 d v _ (by omega) (hw.1.mv w1 w2) (by omega)).mono (fun y x hx => ⟨hx.1, K x ⟨rfl, hx.2.1.trans (at_lm w1), hx.2.2⟩⟩)
    cases R1 with
    | inl n =>
      refine ⟨Sum.inl n, by have : n ≤ (sg t2).length := p1
                            show n ≤ r.length; omega, cls _ (fun d w code u hd hw hf hl => ?_), ref _ (fun d w law u hd hw hf hl hk => ?_)⟩
      · exact cgo d w code u _ hd hw hf hl (fun y v hv => ⟨_, hv.2.1, s_X6_readsClause_61 (by omega) v _ _ (fun z => absurd rfl z) (fun _ => ⟨hv.1, rfl, hv.2.2⟩)⟩)
      · refine mgo d w law u _ hd hw hf hl (fun v hv => ?_)
        obtain ⟨-, f1, e1⟩ := hv
        obtain ⟨cs', hP, hcs⟩ := e1.2.2
        have E := er2 (T := T) (n := n) hn0 hk hP.1 (v.1 4 (Int32.toNatClampNeg (v.1 0 14))) (v.1 5 (Int32.toNatClampNeg (v.1 0 14)) + 1) (v.1 6 (Int32.toNatClampNeg (nI (140 * n0 + law.length)))) ⟨e1.1, e1.2.1⟩
        exact s_X12_clause_144 (by omega) v _ (fun _ _ => x1_in hn0 hk) (fun _ _ => n0_in hn0 hP.1) (fun _ _ => ⟨rfl, E.1.trans ((F_G f1).trans hf), E.2⟩) (fun _ z => absurd rfl z) (fun z => absurd e1.2.1 z)
    | inr q =>
      obtain ⟨q1, q2, q4, q3⟩ := p1
      have hq2 : ∀ c ∈ q.2, c ≤ 255 := fun c hc => hs2 c (q4 c hc)
      have hslq := sg_len q.2
      have hsq := sg_le hq2
      have hM := cmp_M hsq
      have hx2 : ∀ d v law (Q : Option ax_V → ax_S → Prop), 41 ≤ d → mLs T n0 v q.2 0 (fla law ++ q.1) → (∀ x, fo (lmF n0) x v → mLs T n0 x (sg q.2) 0 (fla law ++ q.1) → ax_W shM (d + 1) mX12_clause Q 156 [some (ax_r 0), some (ax_i (nI (140 * n0 + law.length))), none] [ax_i (hdI (sg q.2))] x) → ax_W shM (d + 1) mX12_clause Q 144 [some (ax_r 0), some (ax_i (nI (140 * n0 + law.length))), none] [] v := by
        intro d v law Q hd hv K
        refine s_X12_clause_144 (by omega) v _ (fun z => absurd hv.2.1 z) (fun z => absurd hv.2.1 z) (fun z => absurd hv.2.1 z) (fun z => absurd hv.2.1 z) (fun _ => ?_)
        refine (ct_X12_look (by omega) hT hv.1).mono ?_
        rintro y x ⟨rfl, w1, w2⟩
        exact ⟨_, rfl, K x (at_lm w1) (hv.mv w1 w2)⟩
      by_cases a4 : cmp (sg q.2) = 0
      · refine ⟨Sum.inr (([], q.1), sg q.2), ⟨⟨Or.inl rfl, q3 [] (by exact Nat.zero_le _)⟩, fun o => ?_, ?_, ?_, fun c hc => t2in c (sg_sub (q4 c (sg_sub hc)))⟩, cls _ (fun d w code u hd hw hf hl => ?_), ref _ (fun d w law u hd hw hf hl hk => ?_)⟩
        · show (lw_cl o ([], q.1)).length + (sg q.2).length ≤ r.length
          rw [cl_len, if_pos rfl]
          show 0 + (q.1.length + 1) + (sg q.2).length ≤ r.length; omega
        · show 0 + q.1.length + (sg q.2).length ≤ r.length; omega
        · show (sg q.2).length + 3 ≤ r.length; omega
        · refine cgo d w code u _ hd hw hf hl (fun y v hv => ⟨_, hv.2.1, s_X6_readsClause_61 (by omega) v _ _ (fun _ => ?_) (fun z => absurd (show ¬ (1 : Int32) = 0 by decide) z)⟩)
          refine (ct_X6_comparison (by omega) hT hv.2.2.1).mono ?_
          rintro y x ⟨rfl, w1, w2⟩
          rw [if_pos a4]
          have hx := hv.2.2.mv (at_nu w1) w2
          have hlen : (code ++ lw_e q.1).length = code.length + q.1.length := by rw [List.length_append, lw_e_len]
          refine ⟨_, rfl, s_X6_readsClause_70 (by omega) x _ _ (fun z => absurd rfl z) (fun _ => ?_)⟩
          refine (ct_X6_put (by omega) hx (by omega) (a := 13) (by omega) (v := 0) (by omega)).mono ?_
          rintro y z ⟨rfl, z1, z2⟩
          refine ⟨rfl, s_X6_readsClause_81 (by omega) z ⟨z1.trans ((nu_lr (at_nu w1)).trans hv.1), rfl, ?_⟩⟩
          show cS T z (sg q.2) (code ++ lw_cl code.length ([], q.1))
          have e : lw_cl code.length ([], q.1) = lw_e q.1 ++ [13 + 16 * 0] := by unfold lw_cl; rw [if_pos rfl]; rfl
          rw [e, ← List.append_assoc]; exact z2
        · refine mgo d w law u _ hd hw hf hl (fun v hv => ?_)
          obtain ⟨-, f1, e1⟩ := hv
          refine hx2 d v law _ hd e1 (fun x fx hx => ?_)
          have hP := hx.2.2.2
          have fz := fx.trans f1
          have hX := hw.to fz hx
          refine s_X12_clause_156 (by omega) x _ _ (fun _ => x1_in hn0 hk) (fun _ => n0_in hn0 hP.1) (fun _ => ?_) (fun z => absurd a4 (hM.mp z))
          rw [fn_eq7 hn0 hk hP hX.2.1]
          have f7 : fo (fun c i => c = 7 ∧ i = 140 * n0 + law.length) (ax_ui x 7 (140 * n0 + law.length) (x.1 6 (140 * n0 + law.length))) x := fo.rfl'.ui ⟨rfl, rfl⟩
          refine ⟨rfl, fn_G ((f7.mono (fun c i z => by unfold lmG; omega)).trans ((F_G fz).trans hf)), ?_⟩
          obtain ⟨h5, hTB, h6⟩ := hX.k7 (f7.mono (fun c i z => Or.inr z))
          refine fn_W (cl := ([], q.1)) (hx.k f7.1 (by omega)) rfl h5 hTB h6 ?_
          rw [ui_same, hX.2.2.2]; rfl
      · obtain ⟨R2, p2, c2, m2⟩ := nt_condB hT hn0 (m := 0) (by omega) hsq
        have hcb := cmp_b (sg q.2)
        have cgo2 : ∀ d w code u (Q : Option ax_V → ax_S → Prop), 41 ≤ d → cS T w (sg t2) code → fo lrS w u → code.length + r.length ≤ 240 → (∀ y v, cQ T u (code ++ lw_e q.1) R2 y v → ∃ b : Int32, y = some (ax_i b) ∧ ax_W shC (d + 1) mX6_readsClause Q 89 [some (ax_r 3), none, none, none] (ax_i b :: []) v) → ax_W shC (d + 1) mX6_readsClause Q 33 [some (ax_r 3), none, none, none] [ax_i (hdI (sg t2))] w := by
          intro d w code u Q hd hw hf hl K
          refine cgo d w code u _ hd hw hf hl (fun y v hv => ⟨_, hv.2.1, s_X6_readsClause_61 (by omega) v _ _ (fun _ => ?_) (fun z => absurd (show ¬ (1 : Int32) = 0 by decide) z)⟩)
          refine (ct_X6_comparison (by omega) hT hv.2.2.1).mono ?_
          rintro y x ⟨rfl, w1, w2⟩
          rw [if_neg a4]
          have hx := hv.2.2.mv (at_nu w1) w2
          have hlen : (code ++ lw_e q.1).length = code.length + q.1.length := by rw [List.length_append, lw_e_len]
          refine ⟨_, rfl, s_X6_readsClause_70 (by omega) x _ _ (fun _ => ?_) (fun z => absurd (n_m1 (cmp (sg q.2))) z)⟩
          exact (c2 d x _ (by omega) hx (by omega)).mono (fun y z hz => K y z ⟨hz.1.trans ((nu_lr (at_nu w1)).trans hv.1), hz.2⟩)
        have mgo2 : ∀ d w law u (Q : Option ax_V → ax_S → Prop), 41 ≤ d → mX T n0 w (sg t2) law (fla law) → fo (lmG n0) w u → (fla law).length + r.length ≤ 240 → (∀ v (x2 : Int32), ¬ x2 = 0 → ∀ x, fo (lmF n0) x w → mQ T n0 x 0 (fla law ++ q.1) ((fla law ++ q.1).length + (sg q.2).length + (8 * (6 - 0) + 6)) R2 none v → ax_W shM (d + 1) mX12_clause Q 184 [some (ax_r 0), some (ax_i (nI (140 * n0 + law.length))), some (ax_i x2)] [] v) → ax_W shM (d + 1) mX12_clause Q 109 [some (ax_r 0), some (ax_i (nI (140 * n0 + law.length))), none] [ax_i (hdI (sg t2))] w := by
          intro d w law u Q hd hw hf hl K
          refine mgo d w law u _ hd hw hf hl (fun v hv => ?_)
          obtain ⟨-, f1, e1⟩ := hv
          refine hx2 d v law _ hd e1 (fun x fx hx => ?_)
          have hlen : (fla law ++ q.1).length = (fla law).length + q.1.length := List.length_append
          refine s_X12_clause_156 (by omega) x _ _ (fun z => absurd (hM.mpr a4) z) (fun z => absurd (hM.mpr a4) z) (fun z => absurd (hM.mpr a4) z) (fun z => ?_)
          rw [if_pos z]
          refine (m2 d x _ (fun v => ax_W shM (d + 1) mX12_clause Q 184 [some (ax_r 0), some (ax_i (nI (140 * n0 + law.length))), some (ax_i 1)] [] v) (by omega) hx (by omega) (fun v hv => K v 1 (by decide) x (fx.trans f1) hv)).mono ?_
          rintro y v ⟨rfl, hv⟩
          refine ⟨rfl, s_X12_clause_176 (by omega) v _ _ (hv.mono ?_)⟩
          rintro y v ⟨rfl, hv⟩
          exact ⟨rfl, s_X12_clause_180 (by omega) v _ _ hv⟩
        cases R2 with
        | inl n =>
          refine ⟨Sum.inl n, by have : n ≤ (sg q.2).length := p2
                                show n ≤ r.length; omega, cls _ (fun d w code u hd hw hf hl => ?_), ref _ (fun d w law u hd hw hf hl hk => ?_)⟩
          · exact cgo2 d w code u _ hd hw hf hl (fun y v hv => ⟨_, hv.2.1, s_X6_readsClause_89 (by omega) v _ (fun _ => ⟨hv.1, rfl, hv.2.2⟩) (fun z => absurd rfl z)⟩)
          · refine mgo2 d w law u _ hd hw hf hl (fun v x2 hx x hxw hv => ?_)
            obtain ⟨-, f1, e1⟩ := hv
            obtain ⟨cs', hP, hcs⟩ := e1.2.2
            refine (c37 (by omega) hx (x1_in hn0 hk) (n0_in hn0 hP.1) (fun _ => ?_) (fun z => absurd z e1.2.1)).2
            have E := er2 (T := T) (n := n) hn0 hk hP.1 (v.1 4 (Int32.toNatClampNeg (v.1 0 14))) (v.1 5 (Int32.toNatClampNeg (v.1 0 14)) + 1) (v.1 6 (Int32.toNatClampNeg (nI (140 * n0 + law.length)))) ⟨e1.1, e1.2.1⟩
            exact ⟨rfl, E.1.trans ((F_G (f1.trans hxw)).trans hf), E.2⟩
        | inr s =>
          obtain ⟨s1, s2, s4, s3⟩ := p2
          have hlq : (q.1 ++ s.1).length = q.1.length + s.1.length := List.length_append
          have okc : le_ok 60 (q.1 ++ s.1) [] [true] := le_ok_app (q3 [] (by exact Nat.zero_le _)) (s3 [] (by exact Nat.zero_le _))
          have qne : ¬ q.1 ++ s.1 = [] := fun z => by have h := okc; rw [z] at h; exact absurd h (by simp [le_ok])
          obtain ⟨Rt, pt, ct, mt⟩ := cl_tail hT hn0 qne (r := s.2) (fun c hc => hsq c (s4 c hc))
          refine ⟨Rt, ?_, cls _ (fun d w code u hd hw hf hl => ?_), ref _ (fun d w law u hd hw hf hl hk => ?_)⟩
          · cases Rt with
            | inl n => have : n ≤ s.2.length := pt
                       show n ≤ r.length; omega
            | inr p =>
              obtain ⟨x1, x2, x3, x4, x5⟩ := pt
              refine ⟨⟨Or.inr (by rw [x1]; exact okc), x2⟩, fun o => ?_, ?_, ?_, fun c hc => t2in c (sg_sub (q4 c (sg_sub (s4 c (x5 c hc)))))⟩
              · show (lw_cl o p.1).length + p.2.length ≤ r.length
                rw [cl_len, x1, if_neg qne]; omega
              · show p.1.1.length + p.1.2.length + p.2.length ≤ r.length
                rw [x1]; omega
              · show p.2.length + 3 ≤ r.length; omega
          · refine cgo2 d w code u _ hd hw hf hl (fun y v hv => ⟨_, hv.2.1, ?_⟩)
            refine ct d v code u hd ?_ hv.1 (by omega)
            rw [lw_e_app, ← List.append_assoc]; exact hv.2.2
          · refine mgo2 d w law u _ hd hw hf hl (fun v x2 hx x hxw hv => ?_)
            obtain ⟨-, f1, e1⟩ := hv
            have e2 : mLs T n0 v s.2 0 (fla law ++ (q.1 ++ s.1)) := by rw [← List.append_assoc]; exact e1
            refine (c37 (by omega) hx (x1_in hn0 hk) (n0_in hn0 e1.2.2.2.1) (fun z => absurd e1.2.1 z) (fun _ => ?_)).2
            exact mt d v law u hd (hw.to (f1.trans hxw) e2) ((F_G (f1.trans hxw)).trans hf) (by omega) hk
