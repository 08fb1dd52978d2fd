/-! ===== the belt's text, read ===== -/
theorem ui_idl (w : ax_S) (c i : Nat) (x : Int32) (hx : x = 0) : ax_ui w c i (w.1 c i + x) = w := by
  have e : w.1 c i + x = w.1 c i := by rw [hx]; exact Int32.add_zero _
  rw [e]
  refine Prod.ext (funext fun a => funext fun b => ?_) rfl
  by_cases h : a = c
  · by_cases h2 : b = i
    · rw [h, h2]; exact ui_same _ _ _ _
    · rw [h]; exact ui_idx h2
  · exact ui_cell h
theorem sg_cons {c : Nat} {t : List Nat} (h : c ≠ 32) : sg (c :: t) = c :: t := by rw [sg]; exact if_neg h
abbrev rBt : Type := Nat ⊕ tB
def PRF (R : rBt) : Prop := match R with
  | Sum.inl _ => True
  | Sum.inr B => bok B ∧ whB B
def cQF (T : List Nat) (u : ax_S) (R : rBt) (y : Option ax_V) (w : ax_S) : Prop := fo beC w u ∧ match R with
  | Sum.inl n => y = some (ax_i 0) ∧ w.1 1 2 = nI (T.length - n)
  | Sum.inr B => y = some (ax_i 1) ∧ cBs w B
def mQF (T : List Nat) (u : ax_S) (R : rBt) (y : Option ax_V) (w : ax_S) : Prop := fo beM w u ∧ match R with
  | Sum.inl n => y = some (ax_i (nI (T.length - n)))
  | Sum.inr B => y = some (ax_i (-1)) ∧ mBs w B
theorem lp_belt {T : List Nat} (hT : tkOk T) : ∀ (N : Nat) (r : List Nat), r.length < N → (∀ c ∈ r, c ≤ 255) → ∀ B : tB, bok B → ∃ R : rBt, PRF R ∧
    (∀ d w cnt u, 12 ≤ d → cB T w r B → fo beC w u → 2 * cnt + r.length ≤ 240 → ax_W shC (d + 1) mX1_reads (cQF T u R) 36 [some (ax_r 2), some (ax_i (nI cnt))] [] w) ∧
    (∀ d w u, 12 ≤ d → mB T w r B → fo beM w u → ax_W shM (d + 1) mX12_readBelt (mQF T u R) 48 [some (ax_r 0), some (ax_i (nI B.ru)), some (ax_i 1), none] [] w) := by
  intro N
  induction N with
  | zero => intro r hN; exact absurd hN (by omega)
  | succ N ih =>
    intro r hN hr B hB
    obtain ⟨Rk, pk, ck, mk⟩ := nt_kl hT hB hr
    have hTl := hT.1
    have n1 : ¬ (1 : Int32) = 0 := by decide
    have cgo : ∀ d w cnt u (Q : Option ax_V → ax_S → Prop), 12 ≤ d → cB T w r B → fo beC w u → 2 * cnt + r.length ≤ 240 → (∀ y v, cQK T u Rk y v → ∃ b : Int32, y = some (ax_i b) ∧ ax_W shC (d + 1) mX1_reads Q 47 [some (ax_r 2), some (ax_i (nI cnt))] (ax_i b :: []) v) → ax_W shC (d + 1) mX1_reads Q 36 [some (ax_r 2), some (ax_i (nI cnt))] [] w := by
      intro d w cnt u Q hd hw hf hc K
      refine s_X1_reads_36 (by omega) w _ (fun z => absurd ((n_le 240 cnt).mp z) (by omega)) (fun _ => ?_)
      obtain ⟨d, rfl⟩ : ∃ e, d = e + 1 := ⟨d - 1, by omega⟩
      refine ax_Ct.of (lv := [some (ax_r 2), none]) (by decide +kernel) (fun ad => Nat.le_of_ble_eq_true rfl) (fun ad => rfl) ?_
      refine s_X1_readsClause_0 (by omega) w ?_
      refine (ct_X9_sign (by omega) hT hw.1).mono ?_
      rintro y v ⟨rfl, v1, v2⟩
      refine ⟨_, rfl, ck d v _ (by omega) (hw.at_ v1 v2) (fun y x hx => K y x ⟨hx.1.trans ((at_be v1).trans hf), hx.2⟩)⟩
    have mgo : ∀ d w u (Q : Option ax_V → ax_S → Prop), 12 ≤ d → mB T w r B → fo beM w u → (∀ v x1, mQK T u Rk x1 v → ax_W shM (d + 1) mX12_readBelt Q 213 [some (ax_r 0), some (ax_i x1), none, none] [] v) → ax_W shM (d + 1) mX12_readBelt Q 48 [some (ax_r 0), some (ax_i (nI B.ru)), some (ax_i 1), none] [] w := by
      intro d w u Q hd hw hf K
      refine s_X12_readBelt_48 (by omega) w _ _ (fun z => absurd z n1) (fun z => absurd z n1) (fun _ z => absurd hw.2.1 z) (fun _ _ => ?_)
      refine (ct_X12_look (by omega) hT hw.1).mono ?_
      rintro y v ⟨rfl, v1, v2⟩
      exact ⟨_, rfl, mk d v _ (by omega) (hw.at_ v1 v2) (fun x x1 hx => K x x1 ⟨hx.1.trans ((at_bm v1).trans hf), hx.2⟩)⟩
    rcases Rk with n | s | p
    · refine ⟨Sum.inl n, trivial, fun d w cnt u hd hw hf hc => ?_, fun d w u hd hw hf => ?_⟩
      · refine cgo d w cnt u _ hd hw hf hc (fun y v hv => ?_)
        exact ⟨_, hv.2.1, s_X1_reads_47 (by omega) v _ _ (fun z => absurd rfl z) (fun _ => ⟨hv.1, rfl, hv.2.2⟩)⟩
      · refine mgo d w u _ hd hw hf (fun v x1 hv => ?_)
        obtain ⟨f1, h1, h2⟩ := hv
        refine s_X12_readBelt_213 (by omega) v _ (fun _ => ?_) (fun z => absurd h2 z)
        rw [ui_idl v 0 3 _ (by decide)]
        exact s_X12_readBelt_48 (by omega) v _ _ (fun _ _ => ⟨f1, by rw [h1]⟩) (fun _ z => absurd h2 z) (fun z => absurd rfl z) (fun z => absurd rfl z)
    · obtain ⟨hsl, c, t, hst, h59, h32⟩ := pk
      have hsg : sg s = s := by rw [hst]; exact sg_cons h32
      refine ⟨Sum.inl s.length, trivial, fun d w cnt u hd hw hf hc => ?_, fun d w u hd hw hf => ?_⟩
      · refine cgo d w cnt u _ hd hw hf hc (fun y v hv => ?_)
        exact ⟨_, hv.2.1, s_X1_reads_47 (by omega) v _ _ (fun z => absurd rfl z) (fun _ => ⟨hv.1, rfl, hv.2.2⟩)⟩
      · refine mgo d w u _ hd hw hf (fun v x1 hv => ?_)
        obtain ⟨f1, h1, h2⟩ := hv
        refine s_X12_readBelt_213 (by omega) v _ (fun z => absurd h2 z) (fun _ => ?_)
        refine (ct_X12_look (by omega) hT h1).mono ?_
        rintro y x ⟨rfl, x1, x2⟩
        rw [hsg] at x2
        rw [hsg]
        have hcs : ∀ c ∈ s, c ≤ 255 := fun c hc => ((x2.le hT).2 c hc).2
        have nc : ¬ hdI s = (59 : Int32) := fun z => by
          obtain ⟨t', ht'⟩ := (hdI_eq (x := 59) hcs (by omega)).mp z
          rw [hst] at ht'; cases ht'; exact h59 rfl
        have ne : ¬ hdI s = -1 := fun z => by have := (hdI_m1 hcs).mp z; rw [hst] at this; cases this
        have x4 : x.1 0 4 = -1 := by rw [x1.1 0 4 (by unfold atM; omega)]; exact h2
        refine ⟨_, rfl, s_X12_readBelt_225 (by omega) x _ _ ?_⟩
        rw [ui_idl x 0 3 _ (if_neg (not_not_intro nc)), if_neg (not_not_intro nc)]
        refine s_X12_readBelt_48 (by omega) x _ _ (fun _ z => absurd x4 z) (fun _ _ => ?_) (fun z => absurd rfl z) (fun z => absurd rfl z)
        refine (ct_X12_look (by omega) hT x2).mono ?_
        rintro y q ⟨rfl, q1, q2⟩
        rw [hsg] at q2
        rw [hsg]
        have q4 : q.1 0 4 = -1 := by rw [q1.1 0 4 (by unfold atM; omega)]; exact x4
        refine ⟨_, rfl, s_X12_readBelt_269 (by omega) q _ (fun _ => ?_) (fun z => absurd ne z)⟩
        rw [if_neg (not_not_intro q4), q2.at]
        exact ⟨(fo.rfl'.ui (by unfold beM; omega)).trans ((at_bm q1).trans ((at_bm x1).trans f1)), rfl⟩
    · obtain ⟨p1, pB, p2⟩ := pk
      have hp2 : ∀ c ∈ p.2, c ≤ 255 := fun c hc => hr c (p2 c hc)
      have hsl := sg_len p.2
      have hs := sg_le hp2
      have hss := sg_sg p.2
      have k59 := hdI_eq (r := sg p.2) (x := 59) hs (by omega)
      have km1 := hdI_m1 hs
      have cg2 : ∀ d w cnt u (Q : Option ax_V → ax_S → Prop), 12 ≤ d → cB T w r B → fo beC w u → 2 * cnt + r.length ≤ 240 → (∀ y v, fo beC v u → ((∃ t, sg p.2 = 59 :: t ∧ y = some (ax_i 1) ∧ cB T v t p.1) ∨ ((¬ ∃ t, sg p.2 = 59 :: t) ∧ y = some (ax_i 0) ∧ cB T v (sg p.2) p.1)) → ∃ b : Int32, y = some (ax_i b) ∧ ax_W shC (d + 1) mX1_reads Q 61 [some (ax_r 2), some (ax_i (nI cnt))] (ax_i b :: []) v) → ax_W shC (d + 1) mX1_reads Q 36 [some (ax_r 2), some (ax_i (nI cnt))] [] w := by
        intro d w cnt u Q hd hw hf hc K
        refine cgo d w cnt u _ hd hw hf hc (fun y v hv => ?_)
        obtain ⟨f1, y1, y2⟩ := hv
        refine ⟨_, y1, s_X1_reads_47 (by omega) v _ _ (fun _ => ?_) (fun z => absurd n1 z)⟩
        refine (ct_X9_takes (by omega) hT y2.1 (x := 59) (by omega)).mono ?_
        rintro y x ⟨x1, ⟨t3, x2, x3, x4⟩ | ⟨x2, x3, x4⟩⟩
        · exact K y x ((at_be x1).trans f1) (Or.inl ⟨t3, x2, x3, y2.at_ x1 x4⟩)
        · exact K y x ((at_be x1).trans f1) (Or.inr ⟨x2, x3, y2.at_ x1 x4⟩)
      have mg2 : ∀ d w u (Q : Option ax_V → ax_S → Prop), 12 ≤ d → mB T w r B → fo beM w u → (∀ v, fo beM v u → mB T v (sg p.2) p.1 → ax_W shM (d + 1) mX12_readBelt Q 225 [some (ax_r 0), some (ax_i (nI p.1.ru)), none, none] [ax_i (hdI (sg p.2))] v) → ax_W shM (d + 1) mX12_readBelt Q 48 [some (ax_r 0), some (ax_i (nI B.ru)), some (ax_i 1), none] [] w := by
        intro d w u Q hd hw hf K
        refine mgo d w u _ hd hw hf (fun v x1 hv => ?_)
        obtain ⟨f1, h1, rfl⟩ := hv
        refine s_X12_readBelt_213 (by omega) v _ (fun z => absurd h1.2.1 z) (fun _ => ?_)
        refine (ct_X12_look (by omega) hT h1.1).mono ?_
        rintro y x ⟨rfl, x1, x2⟩
        exact ⟨_, rfl, K x ((at_bm x1).trans f1) (h1.at_ x1 x2)⟩
      by_cases a : ∃ t, sg p.2 = 59 :: t
      · have e59 : hdI (sg p.2) = (59 : Int32) := k59.mpr a
        have a' := a
        obtain ⟨t, ht⟩ := a
        have htl : t.length + 1 ≤ p.2.length := by rw [ht] at hsl; exact hsl
        obtain ⟨R, pr, cr, mr⟩ := ih t (by omega) (fun c hc => hs c (by rw [ht]; exact List.mem_cons_of_mem _ hc)) p.1 pB
        refine ⟨R, pr, fun d w cnt u hd hw hf hc => ?_, fun d w u hd hw hf => ?_⟩
        · refine cg2 d w cnt u _ hd hw hf hc ?_
          rintro y v hv (⟨t2, v2, rfl, v3⟩ | ⟨v2, -, -⟩)
          · rw [ht] at v2
            have e2 : t = t2 := by cases v2; rfl
            rw [← e2] at v3
            refine ⟨_, rfl, s_X1_reads_61 (by omega) v _ _ (fun _ => ?_) (fun z => absurd n1 z)⟩
            rw [nI_1]
            exact cr d v (cnt + 1) u hd v3 hv (by omega)
          · exact absurd a' v2
        · refine mg2 d w u _ hd hw hf (fun v hvf hv => ?_)
          refine s_X12_readBelt_225 (by omega) v _ _ ?_
          have hv1 := hv.1
          rw [ht] at hv1
          obtain ⟨-, -, v3, -⟩ := hv1.cons hT
          have f0 : fo atM (ax_ui v 0 3 (v.1 0 3 + 1)) v := fo.rfl'.ui ⟨rfl, rfl⟩
          rw [if_pos (not_not_intro e59)]
          exact mr d _ u hd (hv.at_ f0 v3) ((at_bm f0).trans hvf)
      · have n59 : ¬ hdI (sg p.2) = (59 : Int32) := fun z => a (k59.mp z)
        have cg3 : ∀ d w cnt u (Q : Option ax_V → ax_S → Prop), 12 ≤ d → cB T w r B → fo beC w u → 2 * cnt + r.length ≤ 240 → (∀ v, fo beC v u → cB T v (sg p.2) p.1 → ax_W shC (d + 1) mX1_reads Q 80 [some (ax_r 2), none] [ax_i (hdI (sg p.2))] v) → ax_W shC (d + 1) mX1_reads Q 36 [some (ax_r 2), some (ax_i (nI cnt))] [] w := by
          intro d w cnt u Q hd hw hf hc K
          refine cg2 d w cnt u _ hd hw hf hc ?_
          rintro y v hv (⟨t2, v2, -, -⟩ | ⟨v2, rfl, v3⟩)
          · exact absurd ⟨t2, v2⟩ a
          · refine ⟨_, rfl, s_X1_reads_61 (by omega) v _ _ (fun z => absurd rfl z) (fun _ => ?_)⟩
            refine (ct_X9_sign (by omega) hT v3.1).mono ?_
            rintro y x ⟨rfl, x1, x2⟩
            rw [hss] at x2
            rw [hss]
            exact ⟨_, rfl, K x ((at_be x1).trans hv) (v3.at_ x1 x2)⟩
        have mg3 : ∀ d w u (Q : Option ax_V → ax_S → Prop), 12 ≤ d → mB T w r B → fo beM w u → (∀ v, fo beM v u → mB T v (sg p.2) p.1 → ax_W shM (d + 1) mX12_readBelt Q 269 [some (ax_r 0), none, none, none] [ax_i (hdI (sg p.2))] v) → ax_W shM (d + 1) mX12_readBelt Q 48 [some (ax_r 0), some (ax_i (nI B.ru)), some (ax_i 1), none] [] w := by
          intro d w u Q hd hw hf K
          refine mg2 d w u _ hd hw hf (fun v hvf hv => ?_)
          refine s_X12_readBelt_225 (by omega) v _ _ ?_
          rw [ui_idl v 0 3 _ (if_neg (not_not_intro n59)), if_neg (not_not_intro n59)]
          refine s_X12_readBelt_48 (by omega) v _ _ (fun _ z => absurd hv.2.1 z) (fun _ _ => ?_) (fun z => absurd rfl z) (fun z => absurd rfl z)
          refine (ct_X12_look (by omega) hT hv.1).mono ?_
          rintro y x ⟨rfl, x1, x2⟩
          rw [hss] at x2
          rw [hss]
          exact ⟨_, rfl, K x ((at_bm x1).trans hvf) (hv.at_ x1 x2)⟩
        by_cases b : sg p.2 = []
        · have e1 := km1.mpr b
          by_cases hwh : whB p.1
          · refine ⟨Sum.inr p.1, ⟨pB, hwh⟩, fun d w cnt u hd hw hf hc => ?_, fun d w u hd hw hf => ?_⟩
            · refine cg3 d w cnt u _ hd hw hf hc (fun v hvf hv => ?_)
              refine s_X1_reads_80 (by omega) v _ (fun z => absurd e1 z) (fun _ => ?_)
              refine (ct_X1_isWhole (by omega) pB hv.2).mono ?_
              rintro y x ⟨bb, rfl, hb, rfl⟩
              refine ⟨bb, rfl, s_X1_reads_88 (by omega) x _ ?_⟩
              rw [if_pos (hb.z.mpr hwh)]
              exact ⟨hvf, rfl, hv.2⟩
            · refine mg3 d w u _ hd hw hf (fun v hvf hv => ?_)
              refine s_X12_readBelt_269 (by omega) v _ (fun z => absurd e1 z) (fun _ => ?_)
              refine (ct_X12_isWhole (by omega) pB hv.2.2).mono ?_
              rintro y x ⟨bb, rfl, hb, rfl⟩
              exact ⟨bb, rfl, s_X12_readBelt_277 (by omega) x _ (fun _ => ⟨hvf, by rw [hv.2.1], hv.2.2⟩) (fun z => absurd (hb.z.mpr hwh) z)⟩
          · refine ⟨Sum.inl 0, trivial, fun d w cnt u hd hw hf hc => ?_, fun d w u hd hw hf => ?_⟩
            · refine cg3 d w cnt u _ hd hw hf hc (fun v hvf hv => ?_)
              refine s_X1_reads_80 (by omega) v _ (fun z => absurd e1 z) (fun _ => ?_)
              refine (ct_X1_isWhole (by omega) pB hv.2).mono ?_
              rintro y x ⟨bb, rfl, hb, rfl⟩
              refine ⟨bb, rfl, s_X1_reads_88 (by omega) x _ ?_⟩
              rw [if_neg (fun z => hwh (hb.z.mp z))]
              have := hv.1.at
              rw [b] at this
              exact ⟨hvf, rfl, this⟩
            · refine mg3 d w u _ hd hw hf (fun v hvf hv => ?_)
              refine s_X12_readBelt_269 (by omega) v _ (fun z => absurd e1 z) (fun _ => ?_)
              refine (ct_X12_isWhole (by omega) pB hv.2.2).mono ?_
              rintro y x ⟨bb, rfl, hb, rfl⟩
              refine ⟨bb, rfl, s_X12_readBelt_277 (by omega) x _ (fun z => absurd (hb.z.mp z) hwh) (fun _ => ?_)⟩
              have := hv.1.at
              rw [b] at this
              rw [if_neg (not_not_intro hv.2.1), this]
              exact ⟨(fo.rfl'.ui (by unfold beM; omega)).trans hvf, rfl⟩
        · have e1 : ¬ hdI (sg p.2) = -1 := fun z => b (km1.mp z)
          refine ⟨Sum.inl (sg p.2).length, trivial, fun d w cnt u hd hw hf hc => ?_, fun d w u hd hw hf => ?_⟩
          · refine cg3 d w cnt u _ hd hw hf hc (fun v hvf hv => ?_)
            exact s_X1_reads_80 (by omega) v _ (fun _ => ⟨hvf, rfl, hv.1.at⟩) (fun z => absurd e1 z)
          · refine mg3 d w u _ hd hw hf (fun v hvf hv => ?_)
            refine s_X12_readBelt_269 (by omega) v _ (fun _ => ?_) (fun z => absurd e1 z)
            rw [if_neg (not_not_intro hv.2.1), hv.1.at]
            exact ⟨(fo.rfl'.ui (by unfold beM; omega)).trans hvf, rfl⟩
