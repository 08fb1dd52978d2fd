/-! ===== a law, read ===== -/
abbrev rL : Type := Nat ⊕ List tCl
def PR3 (r : List Nat) (R : rL) : Prop := match R with
  | Sum.inl n => n ≤ r.length
  | Sum.inr ls => (∀ c ∈ ls, clw c) ∧ (∀ o, (lw_enc o ls).length ≤ r.length) ∧ (fla ls).length ≤ r.length ∧ 3 * ls.length ≤ r.length
def cQ3 (T : List Nat) (u : ax_S) (law : List tCl) (R : rL) (y : Option ax_V) (w : ax_S) : Prop := fo lrS w u ∧ match R with
  | Sum.inl n => y = some (ax_i 0) ∧ w.1 1 2 = nI (T.length - n)
  | Sum.inr ls => y = some (ax_i 1) ∧ cS T w [] (lw_enc 0 (law ++ ls))
def mQ3 (T : List Nat) (n0 : Nat) (u : ax_S) (law : List tCl) (R : rL) (y : Option ax_V) (w : ax_S) : Prop := fo (lmG n0) w u ∧ match R with
  | Sum.inl n => y = some (ax_i (nI (T.length - n)))
  | Sum.inr ls => y = some (ax_i (-1)) ∧ mW T n0 w [] (law ++ ls)
theorem lp_reads {T : List Nat} (hT : tkOk T) {n0 : Nat} (hn0 : n0 ≤ 4) : ∀ (N : Nat) (r : List Nat), r.length ≤ N → (∀ c ∈ r, c ≤ 255) → ∃ R : rL, PR3 r R ∧
    (∀ d w law k u, 42 ≤ d → cS T w r (lw_enc 0 law) → fo lrS w u → (lw_enc 0 law).length + r.length ≤ 240 → 3 * k + r.length ≤ 240 → ax_W shC (d + 1) mX6_reads (cQ3 T u law R) 15 [some (ax_r 3), some (ax_i (nI k))] [] w) ∧
    (∀ d w law u, 42 ≤ d → mW T n0 w r law → fo (lmG n0) w u → (fla law).length + r.length ≤ 240 → 3 * law.length + r.length ≤ 240 → ax_Ct shM d mX12_clause [ax_r 0] (fun y v => y = none ∧ ax_W shM (d + 1) mX12_readLaw (mQ3 T n0 u law R) 9 [some (ax_r 0), none] [] v) w) := by
  intro N
  induction N with
  | zero =>
    intro r hN hr
    have er : r = [] := List.eq_nil_of_length_eq_zero (by omega)
    subst er
    obtain ⟨Rc, pc, cc, mc⟩ := nt_clause hT hn0 (r := []) hr
    cases Rc with
    | inr p => exact absurd pc.2.2.2.1 (by show ¬ p.2.length + 3 ≤ 0; omega)
    | inl n =>
      refine ⟨Sum.inl n, pc, fun d w law k u hd hw hf hl hk => ?_, fun d w law u hd hw hf hl hk => ?_⟩
      · refine s_X6_reads_15 (by omega) w _ (fun z => absurd ((n_le 240 k).mp z) (by omega)) (fun _ => ?_)
        refine (cc d w _ (by omega) hw (by omega)).mono ?_
        rintro y v ⟨v1, rfl, v2⟩
        exact ⟨_, rfl, s_X6_reads_26 (by omega) v _ _ (fun z => absurd rfl z) (fun _ => ⟨v1.trans hf, rfl, v2⟩)⟩
      · refine (mc d w law (by omega) hw (by omega) (by omega)).mono ?_
        rintro y v ⟨rfl, v1, v2⟩
        refine ⟨rfl, s_X12_readLaw_9 (by omega) v (fun _ => ?_) (fun z => absurd v2.2 z)⟩
        obtain ⟨d, rfl⟩ : ∃ e, d = e + 1 := ⟨d - 1, by omega⟩
        refine ax_Ct.of (lv := [some (ax_r 0)]) (by decide +kernel) (fun ad => Nat.le_of_ble_eq_true rfl) (fun ad => rfl) ?_
        exact s_X12_atEnd_0 (by omega) v (fun _ => ⟨_, rfl, s_X12_readLaw_47 (by omega) v _ ⟨v1.trans hf, by rw [v2.1]⟩⟩) (fun z => absurd v2.2 z)
  | succ N ih =>
    intro r hN hr
    obtain ⟨Rc, pc, cc, mc⟩ := nt_clause hT hn0 hr
    cases Rc with
    | inl n =>
      refine ⟨Sum.inl n, pc, fun d w law k u hd hw hf hl hk => ?_, fun d w law u hd hw hf hl hk => ?_⟩
      · refine s_X6_reads_15 (by omega) w _ (fun z => absurd ((n_le 240 k).mp z) (by omega)) (fun _ => ?_)
        refine (cc d w _ (by omega) hw (by omega)).mono ?_
        rintro y v ⟨v1, rfl, v2⟩
        exact ⟨_, rfl, s_X6_reads_26 (by omega) v _ _ (fun z => absurd rfl z) (fun _ => ⟨v1.trans hf, rfl, v2⟩)⟩
      · refine (mc d w law (by omega) hw (by omega) (by omega)).mono ?_
        rintro y v ⟨rfl, v1, v2⟩
        refine ⟨rfl, s_X12_readLaw_9 (by omega) v (fun _ => ?_) (fun z => absurd v2.2 z)⟩
        obtain ⟨d, rfl⟩ : ∃ e, d = e + 1 := ⟨d - 1, by omega⟩
        refine ax_Ct.of (lv := [some (ax_r 0)]) (by decide +kernel) (fun ad => Nat.le_of_ble_eq_true rfl) (fun ad => rfl) ?_
        exact s_X12_atEnd_0 (by omega) v (fun _ => ⟨_, rfl, s_X12_readLaw_47 (by omega) v _ ⟨v1.trans hf, by rw [v2.1]⟩⟩) (fun z => absurd v2.2 z)
    | inr p =>
      obtain ⟨p1, p2, p3, p4, p5⟩ := pc
      have hp2 : ∀ c ∈ p.2, c ≤ 255 := fun c hc => hr c (p5 c hc)
      have hsl := sg_len p.2
      have hs := sg_le hp2
      have hss := sg_sg p.2
      have k59 := hdI_eq (r := sg p.2) (x := 59) hs (by omega)
      have km1 := hdI_m1 hs
      have cgo : ∀ d w law k u (Q : Option ax_V → ax_S → Prop), 42 ≤ d → cS T w r (lw_enc 0 law) → fo lrS w u → (lw_enc 0 law).length + r.length ≤ 240 → 3 * k + r.length ≤ 240 → (∀ y v, fo lrS v u → ((∃ t, sg p.2 = 59 :: t ∧ y = some (ax_i 1) ∧ cS T v t (lw_enc 0 (law ++ [p.1]))) ∨ ((¬ ∃ t, sg p.2 = 59 :: t) ∧ y = some (ax_i 0) ∧ cS T v (sg p.2) (lw_enc 0 (law ++ [p.1])))) → ∃ b : Int32, y = some (ax_i b) ∧ ax_W shC (d + 1) mX6_reads Q 40 [some (ax_r 3), some (ax_i (nI k))] (ax_i b :: []) v) → ax_W shC (d + 1) mX6_reads Q 15 [some (ax_r 3), some (ax_i (nI k))] [] w := by
        intro d w law k u Q hd hw hf hl hk K
        refine s_X6_reads_15 (by omega) w _ (fun z => absurd ((n_le 240 k).mp z) (by omega)) (fun _ => ?_)
        refine (cc d w _ (by omega) hw (by omega)).mono ?_
        rintro y v ⟨v1, rfl, v2⟩
        rw [← enc_snoc] at v2
        refine ⟨_, rfl, s_X6_reads_26 (by omega) v _ _ (fun _ => ?_) (fun z => absurd (show ¬ (1 : Int32) = 0 by decide) z)⟩
        refine (ct_X9_takes (by omega) hT v2.1 (x := 59) (by omega)).mono ?_
        rintro y x ⟨x1, ⟨t3, x2, x3, x4⟩ | ⟨x2, x3, x4⟩⟩
        · exact K y x ((nu_lr (at_nu x1)).trans (v1.trans hf)) (Or.inl ⟨t3, x2, x3, v2.mv (at_nu x1) x4⟩)
        · exact K y x ((nu_lr (at_nu x1)).trans (v1.trans hf)) (Or.inr ⟨x2, x3, v2.mv (at_nu x1) x4⟩)
      have mgo : ∀ d w law u (Q : Option ax_V → ax_S → Prop), 42 ≤ d → mW T n0 w r law → fo (lmG n0) w u → (fla law).length + r.length ≤ 240 → 3 * law.length + r.length ≤ 240 → (∀ v, mW T n0 v (sg p.2) (law ++ [p.1]) → fo (lmG n0) v u → ax_W shM (d + 1) mX12_readLaw Q 21 [some (ax_r 0), none] [ax_i (hdI (sg p.2))] v) → ax_Ct shM d mX12_clause [ax_r 0] (fun y v => y = none ∧ ax_W shM (d + 1) mX12_readLaw Q 9 [some (ax_r 0), none] [] v) w := by
        intro d w law u Q hd hw hf hl hk K
        refine (mc d w law (by omega) hw (by omega) (by omega)).mono ?_
        rintro y v ⟨rfl, v1, v2⟩
        refine ⟨rfl, s_X12_readLaw_9 (by omega) v (fun z => absurd v2.1.2.1 z) (fun _ => ?_)⟩
        refine (ct_X12_look (by omega) hT v2.1.1).mono ?_
        rintro y x ⟨rfl, w1, w2⟩
        exact ⟨_, rfl, K x ⟨v2.1.mv w1 w2, by rw [w1.1 5 n0 (by unfold atM; omega)]; exact v2.2.1, v2.2.2.to (fun c i hc _ => w1.1 c i (by unfold atM; omega))⟩ ((F_G (at_lm w1)).trans (v1.trans hf))⟩
      by_cases a : ∃ t, sg p.2 = 59 :: t
      · have e59 : hdI (sg p.2) = (59 : Int32) := k59.mpr a
        have a' := a
        obtain ⟨t, ht⟩ := a
        have htl : t.length + 1 ≤ p.2.length := by rw [ht] at hsl; exact hsl
        have hts : ∀ c ∈ t, c ≤ 255 := fun c hc => hs c (by rw [ht]; exact List.mem_cons_of_mem _ hc)
        obtain ⟨R, pr, cr, mr⟩ := ih t (by omega) hts
        have cg2 : ∀ d w law k u (Q : Option ax_V → ax_S → Prop), 42 ≤ d → cS T w r (lw_enc 0 law) → fo lrS w u → (lw_enc 0 law).length + r.length ≤ 240 → 3 * k + r.length ≤ 240 → (∀ y x, cQ3 T u (law ++ [p.1]) R y x → Q y x) → ax_W shC (d + 1) mX6_reads Q 15 [some (ax_r 3), some (ax_i (nI k))] [] w := by
          intro d w law k u Q hd hw hf hl hk K
          refine cgo d w law k u _ hd hw hf hl hk ?_
          rintro y v hv (⟨t2, v2, rfl, v3⟩ | ⟨v2, -, -⟩)
          · rw [ht] at v2
            have e2 : t = t2 := by cases v2; rfl
            rw [← e2] at v3
            refine ⟨_, rfl, s_X6_reads_40 (by omega) v _ _ (fun _ => ?_) (fun z => absurd (show ¬ (1 : Int32) = 0 by decide) z)⟩
            rw [nI_1]
            have hle := p2 (lw_enc 0 law).length
            exact (cr d v _ (k + 1) u hd v3 hv (by rw [enc_snoc, List.length_append]; omega) (by omega)).mono K
          · exact absurd a' v2
        have mg2 : ∀ d w law u (Q : Option ax_V → ax_S → Prop), 42 ≤ d → mW T n0 w r law → fo (lmG n0) w u → (fla law).length + r.length ≤ 240 → 3 * law.length + r.length ≤ 240 → (∀ y x, mQ3 T n0 u (law ++ [p.1]) R y x → Q y x) → ax_Ct shM d mX12_clause [ax_r 0] (fun y v => y = none ∧ ax_W shM (d + 1) mX12_readLaw Q 9 [some (ax_r 0), none] [] v) w := by
          intro d w law u Q hd hw hf hl hk K
          refine mgo d w law u _ hd hw hf hl hk (fun v hv hvf => ?_)
          refine s_X12_readLaw_21 (by omega) v _ (fun z => absurd e59 z) (fun _ => ?_)
          have hvl := hv.1
          rw [ht] at hvl
          obtain ⟨n1, n2⟩ := hvl.next hT
          have f : fo (fun c i => c = 0 ∧ i = 3) (ax_ui v 0 3 (v.1 0 3 + 1)) v := fo.rfl'.ui ⟨rfl, rfl⟩
          have hlf : (fla (law ++ [p.1])).length = (fla law).length + (p.1.1.length + p.1.2.length) := by rw [fla_app, List.length_append, fla, fla, List.append_nil, List.length_append]
          have hll : (law ++ [p.1]).length = law.length + 1 := List.length_append
          refine (mr d _ (law ++ [p.1]) u hd ⟨n1, by rw [f.1 5 n0 (by omega)]; exact hv.2.1, hv.2.2.to (fun c i hc _ => f.1 c i (by omega))⟩ ((F_G n2).trans hvf) (by omega) (by omega)).mono ?_
          rintro y x ⟨rfl, hx⟩
          exact ⟨rfl, s_X12_readLaw_40 (by omega) x (hx.mono K)⟩
        cases R with
        | inl n =>
          refine ⟨Sum.inl n, by have : n ≤ t.length := pr
                                show n ≤ r.length; omega, fun d w law k u hd hw hf hl hk => ?_, fun d w law u hd hw hf hl hk => ?_⟩
          · exact cg2 d w law k u _ hd hw hf hl hk (fun y x hx => hx)
          · exact mg2 d w law u _ hd hw hf hl hk (fun y x hx => hx)
        | inr ls =>
          obtain ⟨r1, r2, r3, r4⟩ := pr
          refine ⟨Sum.inr (p.1 :: ls), ⟨fun c hc => ?_, fun o => ?_, ?_, ?_⟩, fun d w law k u hd hw hf hl hk => ?_, fun d w law u hd hw hf hl hk => ?_⟩
          · rcases List.mem_cons.mp hc with e | e
            · rw [e]; exact p1
            · exact r1 c e
          · show (lw_enc o (p.1 :: ls)).length ≤ r.length
            rw [lw_enc, List.length_append]
            have := p2 o
            have := r2 (o + (lw_cl o p.1).length)
            omega
          · show (fla (p.1 :: ls)).length ≤ r.length
            rw [fla, List.length_append, List.length_append]; omega
          · show 3 * (p.1 :: ls).length ≤ r.length
            rw [List.length_cons]; omega
          · refine cg2 d w law k u _ hd hw hf hl hk (fun y x hx => ⟨hx.1, hx.2.1, ?_⟩)
            rw [show law ++ p.1 :: ls = law ++ [p.1] ++ ls by rw [List.append_assoc]; rfl]; exact hx.2.2
          · refine mg2 d w law u _ hd hw hf hl hk (fun y x hx => ⟨hx.1, hx.2.1, ?_⟩)
            rw [show law ++ p.1 :: ls = law ++ [p.1] ++ ls by rw [List.append_assoc]; rfl]; exact hx.2.2
      · have n59 : ¬ hdI (sg p.2) = (59 : Int32) := fun z => a (k59.mp z)
        have cg2 : ∀ d w law k u (Q : Option ax_V → ax_S → Prop), 42 ≤ d → cS T w r (lw_enc 0 law) → fo lrS w u → (lw_enc 0 law).length + r.length ≤ 240 → 3 * k + r.length ≤ 240 → (∀ x, fo lrS x u → cS T x (sg p.2) (lw_enc 0 (law ++ [p.1])) → Q (some (ax_i (if (¬ (¬ hdI (sg p.2) = (-1 : Int32))) then (1 : Int32) else 0))) x) → ax_W shC (d + 1) mX6_reads Q 15 [some (ax_r 3), some (ax_i (nI k))] [] w := by
          intro d w law k u Q hd hw hf hl hk K
          refine cgo d w law k u _ hd hw hf hl hk ?_
          rintro y v hv (⟨t2, v2, -, -⟩ | ⟨v2, rfl, v3⟩)
          · exact absurd ⟨t2, v2⟩ a
          · refine ⟨_, rfl, s_X6_reads_40 (by omega) v _ _ (fun z => absurd rfl z) (fun _ => ?_)⟩
            refine (ct_X9_sign (by omega) hT v3.1).mono ?_
            rintro y x ⟨rfl, x1, x2⟩
            rw [hss] at x2
            rw [hss]
            exact ⟨_, rfl, s_X6_reads_59 (by omega) x _ (K x ((nu_lr (at_nu x1)).trans hv) (v3.mv (at_nu x1) x2))⟩
        have mg2 : ∀ d w law u (Q : Option ax_V → ax_S → Prop), 42 ≤ d → mW T n0 w r law → fo (lmG n0) w u → (fla law).length + r.length ≤ 240 → 3 * law.length + r.length ≤ 240 → (∀ x, mW T n0 x (sg p.2) (law ++ [p.1]) → fo (lmG n0) x u → (hdI (sg p.2) = -1 → Q (some (ax_i (x.1 0 4))) x) ∧ (¬ hdI (sg p.2) = -1 → Q (some (ax_i (if (¬ x.1 0 4 = -1) then x.1 0 4 else x.1 0 3))) (ax_ui x 0 4 (if (¬ x.1 0 4 = -1) then x.1 0 4 else x.1 0 3)))) → ax_Ct shM d mX12_clause [ax_r 0] (fun y v => y = none ∧ ax_W shM (d + 1) mX12_readLaw Q 9 [some (ax_r 0), none] [] v) w := by
          intro d w law u Q hd hw hf hl hk K
          refine mgo d w law u _ hd hw hf hl hk (fun v hv hvf => ?_)
          refine s_X12_readLaw_21 (by omega) v _ (fun _ => ?_) (fun z => absurd n59 z)
          obtain ⟨d, rfl⟩ : ∃ e, d = e + 1 := ⟨d - 1, by omega⟩
          refine ax_Ct.of (lv := [some (ax_r 0)]) (by decide +kernel) (fun ad => Nat.le_of_ble_eq_true rfl) (fun ad => rfl) ?_
          refine s_X12_atEnd_0 (by omega) v (fun z => absurd hv.1.2.1 z) (fun _ => ?_)
          refine (ct_X12_look (by omega) hT hv.1.1).mono ?_
          rintro y x ⟨rfl, w1, w2⟩
          rw [hss] at w2
          rw [hss]
          have G := K x ⟨hv.1.mv w1 w2, by rw [w1.1 5 n0 (by unfold atM; omega)]; exact hv.2.1, hv.2.2.to (fun c i hc _ => w1.1 c i (by unfold atM; omega))⟩ ((F_G (at_lm w1)).trans hvf)
          exact ⟨_, rfl, s_X12_atEnd_12 (by omega) x _ (fun z => ⟨_, rfl, s_X12_readLaw_47 (by omega) x _ (G.1 z)⟩) (fun z => ⟨_, rfl, s_X12_readLaw_47 (by omega) _ _ (G.2 z)⟩)⟩
        by_cases b : sg p.2 = []
        · have e1 := km1.mpr b
          refine ⟨Sum.inr [p.1], ⟨fun c hc => ?_, fun o => ?_, ?_, ?_⟩, fun d w law k u hd hw hf hl hk => ?_, fun d w law u hd hw hf hl hk => ?_⟩
          · rw [List.mem_singleton.mp hc]; exact p1
          · show (lw_enc o [p.1]).length ≤ r.length
            rw [lw_enc, lw_enc, List.append_nil]
            have := p2 o
            omega
          · show (fla [p.1]).length ≤ r.length
            rw [fla, fla, List.append_nil, List.length_append]; omega
          · show 3 * 1 ≤ r.length; omega
          · refine cg2 d w law k u _ hd hw hf hl hk (fun x hx1 hx2 => ?_)
            rw [if_pos (fun z => z e1)]
            rw [b] at hx2
            exact ⟨hx1, rfl, hx2⟩
          · refine mg2 d w law u _ hd hw hf hl hk (fun x hx1 hx2 => ⟨fun _ => ?_, fun z => absurd e1 z⟩)
            rw [b] at hx1
            exact ⟨hx2, by rw [hx1.1.2.1], hx1⟩
        · have e1 : ¬ hdI (sg p.2) = -1 := fun z => b (km1.mp z)
          refine ⟨Sum.inl (sg p.2).length, by show (sg p.2).length ≤ r.length; omega, fun d w law k u hd hw hf hl hk => ?_, fun d w law u hd hw hf hl hk => ?_⟩
          · refine cg2 d w law k u _ hd hw hf hl hk (fun x hx1 hx2 => ?_)
            rw [if_neg (not_not_intro e1)]
            exact ⟨hx1, rfl, hx2.1.at⟩
          · refine mg2 d w law u _ hd hw hf hl hk (fun x hx1 hx2 => ⟨fun z => absurd z e1, fun _ => ?_⟩)
            obtain ⟨k1, k2, k3⟩ := hx1.1.bad hT (Nat.le_refl _)
            rw [if_neg (not_not_intro hx1.1.2.1), hx1.1.1.at]
            exact ⟨(F_G k3).trans hx2, rfl⟩
