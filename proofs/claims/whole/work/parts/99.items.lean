/-! ===== the belt's text: the items of a clause ===== -/
def gok (k : Nat) (g : Nat → Nat) : Prop := ∀ i, i < kL k → loB (kF k + i) ≤ g i ∧ g i ≤ hiB (kF k + i)
def cI (T : List Nat) (k b : Nat) (u : ax_S) (r : List Nat) (g : Nat → Nat) : Prop := cT T u r ∧ ∀ i, i < kL k → u.1 (15 + k) (b + i) = nI (g i)
def mI (T : List Nat) (k b : Nat) (u : ax_S) (r : List Nat) (g : Nat → Nat) : Prop := mT T u r ∧ u.1 0 4 = -1 ∧ ∀ i, i < kL k → u.1 (11 + k) (b + i) = nI (g i)
def cFr (k b c i : Nat) : Prop := nuS c i ∨ (c = 15 + k ∧ b ≤ i ∧ i < b + kL k)
def mFr (k b c i : Nat) : Prop := nuM c i ∨ (c = 11 + k ∧ b ≤ i ∧ i < b + kL k)
abbrev rI : Type := Nat ⊕ (List Nat ⊕ ((Nat → Nat) × List Nat))
def cQI (T : List Nat) (k b : Nat) (u : ax_S) (R : rI) (y : Option ax_V) (w : ax_S) : Prop := fo (cFr k b) w u ∧ match R with
  | Sum.inl n => y = some (ax_i 0) ∧ w.1 1 2 = nI (T.length - n)
  | Sum.inr (Sum.inl s) => y = some (ax_i 0) ∧ w.1 1 2 = nI (T.length - s.length)
  | Sum.inr (Sum.inr p) => y = some (ax_i 1) ∧ cI T k b w p.2 p.1
def mQI (T : List Nat) (k b : Nat) (u : ax_S) (R : rI) (y : Option ax_V) (w : ax_S) : Prop := y = none ∧ fo (mFr k b) w u ∧ match R with
  | Sum.inl n => wr T n w
  | Sum.inr (Sum.inl s) => mT T w s ∧ w.1 0 4 = -1
  | Sum.inr (Sum.inr p) => mI T k b w p.2 p.1
def PRI (k : Nat) (r : List Nat) (R : rI) : Prop := match R with
  | Sum.inl n => n ≤ r.length
  | Sum.inr (Sum.inl s) => s.length ≤ r.length ∧ ∃ c t, s = c :: t ∧ c ≠ 59 ∧ c ≠ 32
  | Sum.inr (Sum.inr p) => p.2.length ≤ r.length ∧ gok k p.1 ∧ ∀ c ∈ p.2, c ∈ r
theorem ct_setW {d : Nat} (hd : 1 ≤ d) (σ : ax_S) {k b : Nat} (hk : k < 3) (hb : b + kL k ≤ kN k) :
    ax_Ct shC d mX1_setWithout [ax_r 2, ax_r (15 + k), ax_i (nI b), ax_i (nI (kF k)), ax_i (nI (kF k + kL k))] (fun y w => y = none ∧ fo (fun c i => c = 15 + k ∧ b ≤ i ∧ i < b + kL k) w σ ∧ ∀ i, i < kL k → w.1 (15 + k) (b + i) = nI (usB (kF k + i))) σ := by
  obtain ⟨d, rfl⟩ : ∃ e, d = e + 1 := ⟨d - 1, by omega⟩
  refine ax_Ct.of (lv := [some (ax_r 2), some (ax_r (15 + k)), some (ax_i (nI b)), some (ax_i (nI (kF k))), some (ax_i (nI (kF k + kL k))), none]) (by decide +kernel) (fun ad => Nat.le_of_ble_eq_true rfl) (fun ad => rfl) ?_
  have hA := kA hk
  refine s_X1_setWithout_0 (by omega) σ (15 + k) (kN k) (hrC hk) _ _ _ ?_
  have loop : ∀ f i w, i + f = kL k → fo (fun c i => c = 15 + k ∧ b ≤ i ∧ i < b + kL k) w σ → (∀ q, q < i → w.1 (15 + k) (b + q) = nI (usB (kF k + q))) → ax_W shC (d + 1) mX1_setWithout (fun y w => y = none ∧ fo (fun c i => c = 15 + k ∧ b ≤ i ∧ i < b + kL k) w σ ∧ ∀ i, i < kL k → w.1 (15 + k) (b + i) = nI (usB (kF k + i))) 3 [none, some (ax_r (15 + k)), some (ax_i (nI b)), some (ax_i (nI (kF k))), some (ax_i (nI (kF k + kL k))), some (ax_i (nI (kF k + i)))] [] w := by
    intro f
    induction f with
    | zero =>
      intro i w hi hf hw
      have g : nI (kF k + kL k) ≤ nI (kF k + i) := (n_le _ _).mpr (by omega)
      exact s_X1_setWithout_3 (by omega) w (15 + k) (kN k) (hrC hk) _ _ _ _ (fun _ => ⟨rfl, hf, fun q hq => hw q (by omega)⟩) (fun z => absurd g z) (fun z => absurd g z) (fun z => absurd g z)
    | succ f ih =>
      intro i w hi hf hw
      have g : ¬ nI (kF k + kL k) ≤ nI (kF k + i) := fun z => absurd ((n_le _ _).mp z) (by omega)
      have ei : nI b + nI (kF k + i) - nI (kF k) = nI (b + i) := by
        rw [n_add, n_sub (b + (kF k + i)) (kF k)]; congr 1; omega
      refine s_X1_setWithout_3 (by omega) w (15 + k) (kN k) (hrC hk) _ _ _ _ (fun z => absurd z g) (fun _ => n_in _ _) (fun _ => by rw [ei]; exact n_in _ _) (fun _ => ?_)
      rw [ei, n_tn (b + i), n_tn (kF k + i), (tabB (kF k + i) (by omega)).2.2, nI_1]
      refine ih (i + 1) _ (by omega) (hf.ui ⟨rfl, by omega, by omega⟩) (fun q hq => ?_)
      by_cases e : q = i
      · rw [e, ui_same]
      · rw [ui_idx (by omega)]; exact hw q (by omega)
  exact loop (kL k) 0 σ (by omega) fo.rfl' (fun q hq => absurd hq (by omega))
theorem lp_items {T : List Nat} (hT : tkOk T) {k b : Nat} (hk : k < 3) (hb : b + kL k ≤ kN k) : ∀ (N : Nat) (r : List Nat), r.length < N → (∀ c ∈ r, c ≤ 255) → ∀ (g : Nat → Nat) (m : Nat), m < 2 ^ kL k → gok k g → ∃ R : rI, PRI k r R ∧
    (∀ d w u, 6 ≤ d → cI T k b w r g → fo (cFr k b) w u → ax_W shC (d + 1) mX1_readsItems (cQI T k b u R) 15 [some (ax_r 2), some (ax_r (15 + k)), some (ax_i (nI b)), some (ax_i (nI (kF k))), some (ax_i (nI (kF k + kL k))), some (ax_i (nI (m * 2 ^ kF k))), some (ax_i (nI (kF k + pcn m))), none] [] w) ∧
    (∀ d w u, 6 ≤ d → mI T k b w (sg r) g → fo (mFr k b) w u → ax_W shM (d + 1) mX12_items (mQI T k b u R) 41 [some (ax_r 0), some (ax_i (kC k)), some (ax_r (11 + k)), some (ax_i (nI b)), none, some (ax_i (nI m)), some (ax_i (if ix k (sg r) = kL k then -1 else nI (ix k (sg r))))] [] w) := by
  have hA := kA hk
  intro N
  induction N with
  | zero => intro r hN; exact absurd hN (by omega)
  | succ N ih =>
    intro r hN hr g m hm hg
    have hsl := sg_len r
    have hs := sg_le hr
    have hle := ix_le hk (sg r)
    have hpc := tbC1 k hk m hm
    have gpc : ¬ nI (kF k + kL k) < nI (kF k + pcn m) := fun z => absurd ((n_lt _ _).mp z) (by omega)
    have cgo : ∀ d w u (Q : Option ax_V → ax_S → Prop), 6 ≤ d → cI T k b w r g → fo (cFr k b) w u → (∀ v, cI T k b v (sg r) g → fo (cFr k b) v u → ax_W shC (d + 1) mX1_readsItems Q 29 [some (ax_r 2), some (ax_r (15 + k)), some (ax_i (nI b)), some (ax_i (nI (kF k))), some (ax_i (nI (kF k + kL k))), some (ax_i (nI (m * 2 ^ kF k))), some (ax_i (nI (kF k + pcn m))), none] [ax_i (if ix k (sg r) = kL k then -1 else nI (kF k + ix k (sg r)))] v) → ax_W shC (d + 1) mX1_readsItems Q 15 [some (ax_r 2), some (ax_r (15 + k)), some (ax_i (nI b)), some (ax_i (nI (kF k))), some (ax_i (nI (kF k + kL k))), some (ax_i (nI (m * 2 ^ kF k))), some (ax_i (nI (kF k + pcn m))), none] [] w := by
      intro d w u Q hd hw hf K
      refine s_X1_readsItems_15 (by omega) w (15 + k) (kN k) (hrC hk) _ _ _ _ _ (fun z => absurd z gpc) (fun _ => ?_)
      refine (ct_X1_itemAt (by omega) hT hw.1 hk).mono ?_
      rintro y v ⟨rfl, v1, v2⟩
      exact ⟨_, rfl, K v ⟨v2, fun i hi => by rw [v1.1 _ _ (by unfold atS; omega)]; exact hw.2 i hi⟩ ((v1.mono (fun c i z => Or.inl ⟨z.1, Or.inl z.2⟩)).trans hf)⟩
    by_cases a : ix k (sg r) = kL k
    · -- no item
      refine ⟨Sum.inr (Sum.inr (g, sg r)), ⟨hsl, hg, fun c hc => sg_sub hc⟩, fun d w u hd hw hf => ?_, fun d w u hd hw hf => ?_⟩
      · refine cgo d w u _ hd hw hf (fun v hv hvf => ?_)
        rw [if_pos a]
        exact s_X1_readsItems_29 (by omega) v (15 + k) (kN k) (hrC hk) _ _ _ _ _ _ (fun z => absurd rfl z) (fun z => absurd rfl z) (fun _ => ⟨hvf, rfl, hv⟩)
      · rw [if_pos a]
        exact s_X12_items_41 (by omega) w _ (11 + k) (kN k) (hrM hk) _ _ _ (fun z => absurd hw.2.1 z) (fun _ _ => ⟨rfl, hf, hw⟩) (fun _ z => absurd rfl z) (fun _ z => absurd rfl z)
    · have hi : ix k (sg r) < kL k := by omega
      obtain ⟨c, t, hst, hc59, hc32⟩ := ix_hd hk a
      have htl : t.length + 1 ≤ r.length := by rw [hst] at hsl; exact hsl
      have hts : ∀ c ∈ t, c ≤ 255 := fun c hc => hs c (by rw [hst]; exact List.mem_cons_of_mem _ hc)
      generalize hix : ix k (sg r) = i at *
      have nm1C : ¬ nI (kF k + i) = -1 := n_m1 _
      have nm1M : ¬ nI i = -1 := n_m1 _
      obtain ⟨bA1, bA2⟩ := tbA k hk m hm i hi
      obtain ⟨bB1, bB2⟩ := tbB k hk m hm i hi
      by_cases bt : m.testBit i = true
      · -- twice
        refine ⟨Sum.inr (Sum.inl (sg r)), ⟨hsl, c, t, hst, hc59, hc32⟩, fun d w u hd hw hf => ?_, fun d w u hd hw hf => ?_⟩
        · refine cgo d w u _ hd hw hf (fun v hv hvf => ?_)
          rw [if_neg a]
          exact s_X1_readsItems_29 (by omega) v (15 + k) (kN k) (hrC hk) _ _ _ _ _ _ (fun _ z => absurd (bA1.mpr bt) z) (fun _ _ => ⟨hvf, rfl, hv.1.at⟩) (fun z => absurd nm1C z)
        · rw [if_neg a]
          exact s_X12_items_41 (by omega) w _ (11 + k) (kN k) (hrM hk) _ _ _ (fun z => absurd hw.2.1 z) (fun _ z => absurd z nm1M) (fun _ _ _ => ⟨rfl, hf, hw.1, hw.2.1⟩) (fun _ _ z => absurd (bB1.mpr bt) (Classical.not_not.mp z))
      · obtain ⟨m1, m2, m3⟩ := (tbC2 k hk m hm i hi).resolve_left bt
        have hlow := lowK k hk i hi
        have hnP := nm_P (lo := loB (kF k + i)) (hi := hiB (kF k + i)) (r := t)
        have hlb := loB_b (kF k + i)
        have hhb := hiB_b (kF k + i)
        have cg2 : ∀ d w u (Q : Option ax_V → ax_S → Prop), 6 ≤ d → cI T k b w r g → fo (cFr k b) w u → (∀ y v, fo (cFr k b) v u → (∀ i, i < kL k → v.1 (15 + k) (b + i) = nI (g i)) → (match nm (loB (kF k + i)) (hiB (kF k + i)) t with
            | Sum.inl n => y = some (ax_i 0) ∧ v.1 1 2 = nI (T.length - n)
            | Sum.inr p => y = some (ax_i 1) ∧ cT T v p.2 ∧ v.1 1 3 = nI p.1) → ∃ x : Int32, y = some (ax_i x) ∧ ax_W shC (d + 1) mX1_readsItems Q 80 [some (ax_r 2), some (ax_r (15 + k)), some (ax_i (nI b)), some (ax_i (nI (kF k))), some (ax_i (nI (kF k + kL k))), some (ax_i (nI ((m ||| 2 ^ i) * 2 ^ kF k))), some (ax_i (nI (kF k + pcn m))), some (ax_i (nI (kF k + i)))] (ax_i x :: []) v) → ax_W shC (d + 1) mX1_readsItems Q 15 [some (ax_r 2), some (ax_r (15 + k)), some (ax_i (nI b)), some (ax_i (nI (kF k))), some (ax_i (nI (kF k + kL k))), some (ax_i (nI (m * 2 ^ kF k))), some (ax_i (nI (kF k + pcn m))), none] [] w := by
          intro d w u Q hd hw hf K
          refine cgo d w u _ hd hw hf (fun v hv hvf => ?_)
          rw [if_neg a]
          have hv1 := hv.1
          rw [hst] at hv1
          obtain ⟨-, -, v3, -⟩ := hv1.cons hT
          refine s_X1_readsItems_29 (by omega) v (15 + k) (kN k) (hrC hk) _ _ _ _ _ _ (fun _ _ => ?_) (fun _ z => absurd (fun q => bt (bA1.mp q)) z) (fun z => absurd nm1C z)
          rw [bA2]
          have f0 : fo (fun c i => c = 1 ∧ i = 2) (ax_ui v 1 2 (v.1 1 2 + 1)) v := fo.rfl'.ui ⟨rfl, rfl⟩
          refine (ct_X1_readsNumberOf (by omega) hT v3 (x := kF k + i) (by omega)).mono ?_
          rintro y x ⟨x1, x2⟩
          refine K y x ((x1.mono (fun c i z => Or.inl z)).trans ((f0.mono (fun c i z => Or.inl ⟨z.1, Or.inl z.2⟩)).trans hvf)) (fun q hq => ?_) x2
          rw [x1.1 _ _ (by unfold nuS; omega), f0.1 _ _ (by omega)]; exact hv.2 q hq
        have mg2 : ∀ d w u (Q : Option ax_V → ax_S → Prop), 6 ≤ d → mI T k b w (sg r) g → fo (mFr k b) w u → (∀ y v, fo (mFr k b) v u → (∀ i, i < kL k → v.1 (11 + k) (b + i) = nI (g i)) → (match nm (loB (kF k + i)) (hiB (kF k + i)) t with
            | Sum.inl n => (∃ x : Int32, y = some (ax_i x)) ∧ wr T n v
            | Sum.inr p => y = some (ax_i (nI p.1)) ∧ mT T v p.2 ∧ v.1 0 4 = -1) → ∃ x : Int32, y = some (ax_i x) ∧ ax_W shM (d + 1) mX12_items Q 105 [some (ax_r 0), some (ax_i (kC k)), some (ax_r (11 + k)), some (ax_i (nI b)), none, some (ax_i (nI (m ||| 2 ^ i))), none] (ax_i x :: [ax_i (nI (b + i)), ax_r (11 + k)]) v) → ax_W shM (d + 1) mX12_items Q 41 [some (ax_r 0), some (ax_i (kC k)), some (ax_r (11 + k)), some (ax_i (nI b)), none, some (ax_i (nI m)), some (ax_i (if i = kL k then -1 else nI i))] [] w := by
          intro d w u Q hd hw hf K
          rw [if_neg a]
          have hw1 := hw.1
          rw [hst] at hw1
          obtain ⟨-, -, v3, -⟩ := hw1.cons hT
          refine s_X12_items_41 (by omega) w _ (11 + k) (kN k) (hrM hk) _ _ _ (fun z => absurd hw.2.1 z) (fun _ z => absurd z nm1M) (fun _ _ z => absurd (bB1.mp (Classical.not_not.mp z)) bt) (fun _ _ _ => ?_)
          rw [bB2, hlow, n_add]
          have f0 : fo (fun c i => c = 0 ∧ i = 3) (ax_ui w 0 3 (w.1 0 3 + 1)) w := fo.rfl'.ui ⟨rfl, rfl⟩
          refine (ct_X12_highest (by omega) _ hk hi).mono ?_
          rintro y x ⟨rfl, rfl⟩
          refine ⟨_, rfl, s_X12_items_102 (by omega) _ _ (11 + k) (kN k) (hrM hk) _ _ _ _ _ ?_⟩
          refine (ct_X12_number (by omega) hT v3 (by rw [f0.1 0 4 (by omega)]; exact hw.2.1) (lo := loB (kF k + i)) (hi := hiB (kF k + i)) (by omega) (by omega)).mono ?_
          rintro y x ⟨x1, x2⟩
          refine K y x ((x1.mono (fun c i z => Or.inl z)).trans ((f0.mono (fun c i z => Or.inl ⟨z.1, Or.inl z.2⟩)).trans hf)) (fun q hq => ?_) x2
          rw [x1.1 _ _ (by unfold nuM; omega), f0.1 _ _ (by omega)]; exact hw.2.2 q hq
        cases hnm : nm (loB (kF k + i)) (hiB (kF k + i)) t with
        | inl n =>
          rw [hnm] at hnP
          refine ⟨Sum.inl n, by have : n ≤ t.length := hnP
                                show n ≤ r.length; omega, fun d w u hd hw hf => ?_, fun d w u hd hw hf => ?_⟩
          · refine cg2 d w u _ hd hw hf (fun y v hvf hv hy => ?_)
            rw [hnm] at hy
            exact ⟨_, hy.1, s_X1_readsItems_80 (by omega) v (15 + k) (kN k) (hrC hk) _ _ _ _ _ _ _ (fun z => absurd rfl z) (fun z => absurd rfl z) (fun _ => ⟨hvf, rfl, hy.2⟩)⟩
          · refine mg2 d w u _ hd hw hf (fun y v hvf hv hy => ?_)
            rw [hnm] at hy
            obtain ⟨⟨x, hx⟩, hwr⟩ := hy
            have e4 : (ax_ui v (11 + k) (Int32.toNatClampNeg (nI (b + i))) x).1 0 4 = v.1 0 4 := ui_cell (by omega)
            have hwr' : wr T n (ax_ui v (11 + k) (Int32.toNatClampNeg (nI (b + i))) x) := ⟨by rw [e4]; exact hwr.1, by rw [e4]; exact hwr.2⟩
            refine ⟨x, hx, s_X12_items_105 (by omega) v _ (11 + k) (kN k) (hrM hk) _ _ _ _ (n_in _ _) (fun _ => ?_) (fun z => absurd hwr'.2 z)⟩
            refine s_X12_items_41 (by omega) _ _ (11 + k) (kN k) (hrM hk) _ _ _ (fun _ => ⟨rfl, ?_, hwr'⟩) (fun z => absurd hwr'.2 z) (fun z => absurd hwr'.2 z) (fun z => absurd hwr'.2 z)
            rw [n_tn (b + i)]
            exact hvf.ui (Or.inr ⟨rfl, by omega, by omega⟩)
        | inr p =>
          rw [hnm] at hnP
          obtain ⟨q1, q2, q3, q4⟩ := hnP
          have hp2 : ∀ c ∈ p.2, c ≤ 255 := fun c hc => hts c (q4 c hc)
          obtain ⟨R, pr, cr, mr⟩ := ih p.2 (by omega) hp2 (fun q => if q = i then p.1 else g q) (m ||| 2 ^ i) m1 (fun q hq => by
            by_cases e : q = i
            · show loB (kF k + q) ≤ (if q = i then p.1 else g q) ∧ (if q = i then p.1 else g q) ≤ hiB (kF k + q)
              rw [if_pos e, e]; exact ⟨q2, q3⟩
            · show loB (kF k + q) ≤ (if q = i then p.1 else g q) ∧ (if q = i then p.1 else g q) ≤ hiB (kF k + q)
              rw [if_neg e]; exact hg q hq)
          have ein : ∀ c ∈ p.2, c ∈ r := fun c hc => sg_sub (by rw [hst]; exact List.mem_cons_of_mem _ (q4 c hc))
          refine ⟨R, ?_, fun d w u hd hw hf => ?_, fun d w u hd hw hf => ?_⟩
          · rcases R with n | s | p'
            · have : n ≤ p.2.length := pr
              show n ≤ r.length; omega
            · exact ⟨by have := pr.1; omega, pr.2⟩
            · exact ⟨by have := pr.1; omega, pr.2.1, fun c hc => ein c (pr.2.2 c hc)⟩
          · refine cg2 d w u _ hd hw hf (fun y v hvf hv hy => ?_)
            rw [hnm] at hy
            obtain ⟨y1, y2, y3⟩ := hy
            have ei : nI b + nI (kF k + i) - nI (kF k) = nI (b + i) := by
              rw [n_add, n_sub (b + (kF k + i)) (kF k)]; congr 1; omega
            refine ⟨_, y1, s_X1_readsItems_80 (by omega) v (15 + k) (kN k) (hrC hk) _ _ _ _ _ _ _ (fun _ => by rw [ei]; exact n_in _ _) (fun _ => ?_) (fun z => absurd (show ¬ (1 : Int32) = 0 by decide) z)⟩
            rw [ei, n_tn (b + i), nI_1, Nat.add_assoc, ← m2, y3]
            have f0 : fo (fun c q => c = 15 + k ∧ q = b + i) (ax_ui v (15 + k) (b + i) (nI p.1)) v := fo.rfl'.ui ⟨rfl, rfl⟩
            refine cr d _ u hd ⟨y2.to f0.1 (by omega), fun q hq => ?_⟩ (hvf.ui (Or.inr ⟨rfl, by omega, by omega⟩))
            show _ = nI (if q = i then p.1 else g q)
            by_cases e : q = i
            · rw [if_pos e, e, ui_same]
            · rw [if_neg e, ui_idx (by omega)]; exact hv q hq
          · refine mg2 d w u _ hd hw hf (fun y v hvf hv hy => ?_)
            rw [hnm] at hy
            obtain ⟨y1, y2, y3⟩ := hy
            have e4 : (ax_ui v (11 + k) (Int32.toNatClampNeg (nI (b + i))) (nI p.1)).1 0 4 = -1 := (ui_cell (by omega)).trans y3
            refine ⟨_, y1, s_X12_items_105 (by omega) v _ (11 + k) (kN k) (hrM hk) _ _ _ _ (n_in _ _) (fun z => absurd e4 z) (fun _ => ?_)⟩
            rw [n_tn (b + i)]
            have f0 : fo (fun c q => c = 11 + k ∧ q = b + i) (ax_ui v (11 + k) (b + i) (nI p.1)) v := fo.rfl'.ui ⟨rfl, rfl⟩
            refine (ct_X12_look (by omega) hT (y2.to f0.1 (by omega))).mono ?_
            rintro y x ⟨rfl, x1, x2⟩
            refine ⟨_, rfl, s_X12_items_119 (by omega) x _ (11 + k) (kN k) (hrM hk) _ _ _ _ ?_⟩
            refine (ct_X12_itemOf (by omega) x hk (sg_le hp2)).mono ?_
            rintro y x' ⟨rfl, rfl⟩
            refine ⟨_, rfl, s_X12_items_122 (by omega) x' _ (11 + k) (kN k) (hrM hk) _ _ _ ?_⟩
            refine mr d x' u hd ⟨x2, ?_, fun q hq => ?_⟩ ((x1.mono (fun c i z => Or.inl ⟨z.1, Or.inl z.2⟩)).trans (hvf.ui (Or.inr ⟨rfl, by omega, by omega⟩)))
            · rw [x1.1 0 4 (by unfold atM; omega), ui_cell (by omega)]; exact y3
            · rw [x1.1 _ _ (by unfold atM; omega)]
              show _ = nI (if q = i then p.1 else g q)
              by_cases e : q = i
              · rw [if_pos e, e, ui_same]
              · rw [if_neg e, ui_idx (by omega)]; exact hv q hq
