/-! ===== the belt's text: clauses ===== -/
theorem nt_items {T : List Nat} (hT : tkOk T) {k b : Nat} (hk : k < 3) (hb : b + kL k ≤ kN k) {r : List Nat} (hr : ∀ c ∈ r, c ≤ 255) : ∃ R : rI, PRI k r R ∧
    (∀ d u, 8 ≤ d → cT T u r → ax_Ct shC d mX1_readsItems [ax_r 2, ax_r (15 + k), ax_i (nI b), ax_i (nI (kF k)), ax_i (nI (kF k + kL k))] (cQI T k b u R) u) ∧
    (∀ d u, 8 ≤ d → mT T u r → u.1 0 4 = -1 → ax_Ct shM d mX12_items [ax_r 0, ax_i (kC k), ax_r (11 + k), ax_i (nI b), ax_i (nI (kL k))] (mQI T k b u R) u) := by
  have hA := kA hk
  obtain ⟨R, p, c, m⟩ := lp_items hT hk hb (r.length + 1) r (Nat.lt_succ_self _) hr (fun i => usB (kF k + i)) 0 (Nat.pow_pos (by omega)) (fun i hi => usK k hk i hi)
  refine ⟨R, p, fun d u hd hu => ?_, fun d u hd hu h4 => ?_⟩
  · obtain ⟨d, rfl⟩ : ∃ e, d = e + 1 := ⟨d - 1, by omega⟩
    refine ax_Ct.of (lv := [some (ax_r 2), some (ax_r (15 + k)), some (ax_i (nI b)), some (ax_i (nI (kF k))), some (ax_i (nI (kF k + kL k))), none, none, none]) (by decide +kernel) (fun ad => Nat.le_of_ble_eq_true rfl) (fun ad => rfl) ?_
    refine s_X1_readsItems_0 (by omega) u (15 + k) (kN k) (hrC hk) _ _ _ ?_
    refine (ct_setW (by omega) u hk hb).mono ?_
    rintro y w ⟨rfl, w1, w2⟩
    refine ⟨rfl, s_X1_readsItems_9 (by omega) w (15 + k) (kN k) (hrC hk) _ _ _ ?_⟩
    have G := c d w u (by omega) ⟨hu.to w1.1 (by omega), w2⟩ (w1.mono (fun c i z => Or.inr z))
    rw [Nat.zero_mul] at G
    exact G
  · obtain ⟨d, rfl⟩ : ∃ e, d = e + 1 := ⟨d - 1, by omega⟩
    refine ax_Ct.of (lv := [some (ax_r 0), some (ax_i (kC k)), some (ax_r (11 + k)), some (ax_i (nI b)), some (ax_i (nI (kL k))), none, none]) (by decide +kernel) (fun ad => Nat.le_of_ble_eq_true rfl) (fun ad => rfl) ?_
    refine s_X12_items_0 (by omega) u _ (11 + k) (kN k) (hrM hk) _ _ ?_
    have loop : ∀ f i w, i + f = kL k → fo (fun c i => c = 11 + k ∧ b ≤ i ∧ i < b + kL k) w u → (∀ q, q < i → w.1 (11 + k) (b + q) = nI (usB (kF k + q))) → ax_W shM (d + 1) mX12_items (mQI T k b u R) 3 [some (ax_r 0), some (ax_i (kC k)), some (ax_r (11 + k)), some (ax_i (nI b)), some (ax_i (nI (kL k))), some (ax_i (nI i)), none] [] w := by
      intro f
      induction f with
      | zero =>
        intro i w hi hf hw
        have g : nI (kL k) ≤ nI i := (n_le _ _).mpr (by omega)
        refine s_X12_items_3 (by omega) w _ (11 + k) (kN k) (hrM hk) _ _ _ (fun _ => ?_) (fun z => absurd g z)
        refine (ct_X12_look (by omega) hT (hu.to hf.1 (by omega))).mono ?_
        rintro y x ⟨rfl, x1, x2⟩
        refine ⟨_, rfl, s_X12_items_36 (by omega) x _ (11 + k) (kN k) (hrM hk) _ _ _ _ ?_⟩
        refine (ct_X12_itemOf (by omega) x hk (sg_le hr)).mono ?_
        rintro y x' ⟨rfl, rfl⟩
        refine ⟨_, rfl, s_X12_items_39 (by omega) x' _ (11 + k) (kN k) (hrM hk) _ _ _ ?_⟩
        refine m d x' u (by omega) ⟨x2, ?_, fun q hq => ?_⟩ ((x1.mono (fun c i z => Or.inl ⟨z.1, Or.inl z.2⟩)).trans (hf.mono (fun c i z => Or.inr z)))
        · rw [x1.1 0 4 (by unfold atM; omega), hf.1 0 4 (by omega)]; exact h4
        · rw [x1.1 _ _ (by unfold atM; omega)]; exact hw q (by omega)
      | succ f ih =>
        intro i w hi hf hw
        have g : ¬ nI (kL k) ≤ nI i := fun z => absurd ((n_le _ _).mp z) (by omega)
        refine s_X12_items_3 (by omega) w _ (11 + k) (kN k) (hrM hk) _ _ _ (fun z => absurd z g) (fun _ => ?_)
        refine (ct_X12_usual (by omega) w hk (i := i) (by omega)).mono ?_
        rintro y x ⟨rfl, rfl⟩
        refine ⟨_, rfl, ?_⟩
        rw [n_add]
        refine s_X12_items_21 (by omega) x _ (11 + k) (kN k) (hrM hk) _ _ _ _ _ (n_in _ _) ?_
        rw [n_tn (b + i), nI_1]
        refine ih (i + 1) _ (by omega) (hf.ui ⟨rfl, by omega, by omega⟩) (fun q hq => ?_)
        by_cases e : q = i
        · rw [e, ui_same]
        · rw [ui_idx (by omega)]; exact hw q (by omega)
    exact loop (kL k) 0 u (by omega) fo.rfl' (fun q hq => absurd hq (by omega))
def tB : Type := Nat × Nat × Nat × (Nat → Nat) × (Nat → Nat) × (Nat → Nat)
def mkB (ru nh nw : Nat) (S H W : Nat → Nat) : tB := (ru, nh, nw, S, H, W)
def tB.ru (B : tB) : Nat := B.1
def tB.nh (B : tB) : Nat := B.2.1
def tB.nw (B : tB) : Nat := B.2.2.1
def tB.S (B : tB) : Nat → Nat := B.2.2.2.1
def tB.H (B : tB) : Nat → Nat := B.2.2.2.2.1
def tB.W (B : tB) : Nat → Nat := B.2.2.2.2.2
def bok (B : tB) : Prop := gok 0 B.S ∧ (∀ h, h < B.nh → gok 1 (fun i => B.H (4 * h + i))) ∧ (∀ w, w < B.nw → gok 2 (fun i => B.W (3 * w + i))) ∧ B.nh ≤ 8 ∧ B.nw ≤ 8 ∧ B.ru ≤ 1
def cBs (u : ax_S) (B : tB) : Prop := u.1 2 4 = nI B.ru ∧ u.1 2 5 = nI B.nh ∧ u.1 2 6 = nI B.nw ∧ (∀ i, i < 2 → u.1 15 i = nI (B.S i)) ∧ (∀ i, i < 4 * B.nh → u.1 16 i = nI (B.H i)) ∧ ∀ i, i < 3 * B.nw → u.1 17 i = nI (B.W i)
def mBs (u : ax_S) (B : tB) : Prop := u.1 0 20 = nI B.nh ∧ u.1 0 21 = nI B.nw ∧ (∀ i, i < 2 → u.1 11 i = nI (B.S i)) ∧ (∀ i, i < 4 * B.nh → u.1 12 i = nI (B.H i)) ∧ ∀ i, i < 3 * B.nw → u.1 13 i = nI (B.W i)
def cB (T : List Nat) (u : ax_S) (r : List Nat) (B : tB) : Prop := cT T u r ∧ cBs u B
def mB (T : List Nat) (u : ax_S) (r : List Nat) (B : tB) : Prop := mT T u r ∧ u.1 0 4 = -1 ∧ mBs u B
def beC (c i : Nat) : Prop := (c = 1 ∧ (i = 2 ∨ i = 3)) ∨ c = 2 ∨ c = 15 ∨ c = 16 ∨ c = 17
def beM (c i : Nat) : Prop := (c = 0 ∧ (i = 3 ∨ i = 4 ∨ i = 20 ∨ i = 21)) ∨ c = 11 ∨ c = 12 ∨ c = 13
theorem cB.at_ {T : List Nat} {u w : ax_S} {r s : List Nat} {B : tB} (h : cB T u r B) (hf : fo atS w u) (h2 : cT T w s) : cB T w s B := by
  have k : ∀ c i, c ≠ 1 → w.1 c i = u.1 c i := fun c i hc => hf.1 c i (by unfold atS; omega)
  obtain ⟨-, a1, a2, a3, a4, a5, a6⟩ := h
  exact ⟨h2, by rw [k 2 4 (by omega)]; exact a1, by rw [k 2 5 (by omega)]; exact a2, by rw [k 2 6 (by omega)]; exact a3, fun i hi => by rw [k 15 i (by omega)]; exact a4 i hi, fun i hi => by rw [k 16 i (by omega)]; exact a5 i hi, fun i hi => by rw [k 17 i (by omega)]; exact a6 i hi⟩
theorem mB.at_ {T : List Nat} {u w : ax_S} {r s : List Nat} {B : tB} (h : mB T u r B) (hf : fo atM w u) (h2 : mT T w s) : mB T w s B := by
  have k : ∀ c i, ¬ (c = 0 ∧ i = 3) → w.1 c i = u.1 c i := fun c i hc => hf.1 c i hc
  obtain ⟨-, a0, a2, a3, a4, a5, a6⟩ := h
  exact ⟨h2, by rw [k 0 4 (by omega)]; exact a0, by rw [k 0 20 (by omega)]; exact a2, by rw [k 0 21 (by omega)]; exact a3, fun i hi => by rw [k 11 i (by omega)]; exact a4 i hi, fun i hi => by rw [k 12 i (by omega)]; exact a5 i hi, fun i hi => by rw [k 13 i (by omega)]; exact a6 i hi⟩
theorem at_be {w u : ax_S} (h : fo atS w u) : fo beC w u := h.mono (fun c i z => Or.inl ⟨z.1, Or.inl z.2⟩)
theorem at_bm {w u : ax_S} (h : fo atM w u) : fo beM w u := h.mono (fun c i z => Or.inl ⟨z.1, Or.inl z.2⟩)
theorem fr_be {k b : Nat} (hk : k < 3) {w u : ax_S} (h : fo (cFr k b) w u) : fo beC w u := h.mono (fun c i z => by unfold cFr nuS at z; unfold beC; omega)
theorem fr_bm {k b : Nat} (hk : k < 3) {w u : ax_S} (h : fo (mFr k b) w u) : fo beM w u := h.mono (fun c i z => by unfold mFr nuM at z; unfold beM; omega)
abbrev rK : Type := Nat ⊕ (List Nat ⊕ (tB × List Nat))
def PRK (r : List Nat) (R : rK) : Prop := match R with
  | Sum.inl n => n ≤ r.length
  | Sum.inr (Sum.inl s) => s.length ≤ r.length ∧ ∃ c t, s = c :: t ∧ c ≠ 59 ∧ c ≠ 32
  | Sum.inr (Sum.inr p) => p.2.length + 1 ≤ r.length ∧ bok p.1 ∧ ∀ c ∈ p.2, c ∈ r
def cQK (T : List Nat) (u : ax_S) (R : rK) (y : Option ax_V) (w : ax_S) : Prop := fo beC w u ∧ match R with
  | Sum.inl n => y = some (ax_i 0) ∧ w.1 1 2 = nI (T.length - n)
  | Sum.inr (Sum.inl s) => y = some (ax_i 0) ∧ w.1 1 2 = nI (T.length - s.length)
  | Sum.inr (Sum.inr p) => y = some (ax_i 1) ∧ cB T w p.2 p.1
def mQK (T : List Nat) (u : ax_S) (R : rK) (x1 : Int32) (w : ax_S) : Prop := fo beM w u ∧ match R with
  | Sum.inl n => wr T n w
  | Sum.inr (Sum.inl s) => mT T w s ∧ w.1 0 4 = -1
  | Sum.inr (Sum.inr p) => mB T w p.2 p.1 ∧ x1 = nI p.1.ru
/-- which clause: both alike -/
theorem s7 {d : Nat} {Q : Option ax_V → ax_S → Prop} (σ : ax_S) (rr : Int32)
    (Kb : ¬ (rr = 115 ∧ σ.1 2 4 = 0) → ¬ (rr = 104 ∧ ¬ (8 : Int32) ≤ σ.1 2 5) → ¬ (rr = 119 ∧ ¬ (8 : Int32) ≤ σ.1 2 6) → Q (some (ax_i 0)) σ)
    (Ks : rr = 115 → σ.1 2 4 = 0 → ax_Ct shC d mX1_readsItems [ax_r 2, ax_r 15, ax_i 0, ax_i 0, ax_i 2] (fun y u => ∃ x : Int32, y = some (ax_i x) ∧ ax_W shC (d + 1) mX1_readsClause Q 50 [none, none] (ax_i x :: []) u) (ax_ui (ax_ui σ 1 2 (σ.1 1 2 + 1)) 2 4 1))
    (Kh : rr = 104 → ¬ (8 : Int32) ≤ σ.1 2 5 → ax_Ct shC d mX1_readsItems [ax_r 2, ax_r 16, ax_i ((σ.1 2 5 + 1 - 1) * 4), ax_i 2, ax_i 6] (fun y u => ∃ x : Int32, y = some (ax_i x) ∧ ax_W shC (d + 1) mX1_readsClause Q 108 [none, none] (ax_i x :: []) u) (ax_ui (ax_ui σ 1 2 (σ.1 1 2 + 1)) 2 5 (σ.1 2 5 + 1)))
    (Kw : rr = 119 → ¬ (8 : Int32) ≤ σ.1 2 6 → ax_Ct shC d mX1_readsItems [ax_r 2, ax_r 17, ax_i ((σ.1 2 6 + 1 - 1) * 3), ax_i 6, ax_i 9] (fun y u => ∃ x : Int32, y = some (ax_i x) ∧ ax_W shC (d + 1) mX1_readsClause Q 169 [none, none] (ax_i x :: []) u) (ax_ui (ax_ui σ 1 2 (σ.1 1 2 + 1)) 2 6 (σ.1 2 6 + 1))) :
    ax_W shC (d + 1) mX1_readsClause Q 7 [some (ax_r 2), none] [ax_i rr] σ :=
  s_X1_readsClause_7 (Nat.zero_le _) σ rr (fun a b c => Kb (fun z => a z.1) (fun z => b z.1) (fun z => c z.1)) (fun a b c e => Kb (fun z => a z.1) (fun z => b z.1) (fun z => z.2 e)) (fun a b c e => Kw (Classical.not_not.mp c) e)
    (fun a b e c => Kb (fun z => a z.1) (fun z => z.2 e) (fun z => c z.1)) (fun a b e c f => Kb (fun z => a z.1) (fun z => z.2 e) (fun z => z.2 f)) (fun a b e c f => Kw (Classical.not_not.mp c) f) (fun a b e => Kh (Classical.not_not.mp b) e)
    (fun a e b c => Kb (fun z => e z.2) (fun z => b z.1) (fun z => c z.1)) (fun a e b c f => Kb (fun z => e z.2) (fun z => b z.1) (fun z => z.2 f)) (fun a e b c f => Kw (Classical.not_not.mp c) f)
    (fun a e b f c => Kb (fun z => e z.2) (fun z => z.2 f) (fun z => c z.1)) (fun a e b f c g => Kb (fun z => e z.2) (fun z => z.2 f) (fun z => z.2 g)) (fun a e b f c g => Kw (Classical.not_not.mp c) g) (fun a e b f => Kh (Classical.not_not.mp b) f)
    (fun a e => Ks (Classical.not_not.mp a) (Classical.not_not.mp e))
theorem s64 {d : Nat} (hd : 1 ≤ d) {Q : Option ax_V → ax_S → Prop} (σ : ax_S) (x1 rr : Int32)
    (Kb : ¬ (rr = 115 ∧ x1 = 0) → ¬ (rr = 104 ∧ ¬ (8 : Int32) ≤ σ.1 0 20) → ¬ (rr = 119 ∧ ¬ (8 : Int32) ≤ σ.1 0 21) → ax_W shM (d + 1) mX12_readBelt Q 213 [some (ax_r 0), some (ax_i x1), none, none] [] (ax_ui σ 0 4 (if (¬ σ.1 0 4 = -1) then σ.1 0 4 else σ.1 0 3)))
    (Ks : rr = 115 → x1 = 0 → ax_Ct shM d mX12_items [ax_r 0, ax_i rr, ax_r 11, ax_i 0, ax_i 2] (fun y u => y = none ∧ ax_W shM (d + 1) mX12_readBelt Q 98 [some (ax_r 0), some (ax_i 1), none, none] [] u) (ax_ui σ 0 3 (σ.1 0 3 + 1)))
    (Kh : rr = 104 → ¬ (8 : Int32) ≤ σ.1 0 20 → ax_Ct shM d mX12_items [ax_r 0, ax_i rr, ax_r 12, ax_i (4 * σ.1 0 20), ax_i 4] (fun y u => y = none ∧ ax_W shM (d + 1) mX12_readBelt Q 142 [some (ax_r 0), some (ax_i x1), none, none] [] u) (ax_ui σ 0 3 (σ.1 0 3 + 1)))
    (Kw : rr = 119 → ¬ (8 : Int32) ≤ σ.1 0 21 → ax_Ct shM d mX12_items [ax_r 0, ax_i rr, ax_r 13, ax_i (3 * σ.1 0 21), ax_i 3] (fun y u => y = none ∧ ax_W shM (d + 1) mX12_readBelt Q 196 [some (ax_r 0), some (ax_i x1), none, none] [] u) (ax_ui σ 0 3 (σ.1 0 3 + 1))) :
    ax_W shM (d + 1) mX12_readBelt Q 64 [some (ax_r 0), some (ax_i x1), none, none] [ax_i rr] σ :=
  s_X12_readBelt_64 hd σ x1 rr (fun a b c => Kb (fun z => a z.1) (fun z => b z.1) (fun z => c z.1)) (fun a b c e => Kb (fun z => a z.1) (fun z => b z.1) (fun z => z.2 e)) (fun a b c e => Kw (Classical.not_not.mp c) e)
    (fun a b e c => Kb (fun z => a z.1) (fun z => z.2 e) (fun z => c z.1)) (fun a b e c f => Kb (fun z => a z.1) (fun z => z.2 e) (fun z => z.2 f)) (fun a b e c f => Kw (Classical.not_not.mp c) f) (fun a b e => Kh (Classical.not_not.mp b) e)
    (fun a e b c => Kb (fun z => e z.2) (fun z => b z.1) (fun z => c z.1)) (fun a e b c f => Kb (fun z => e z.2) (fun z => b z.1) (fun z => z.2 f)) (fun a e b c f => Kw (Classical.not_not.mp c) f)
    (fun a e b f c => Kb (fun z => e z.2) (fun z => z.2 f) (fun z => c z.1)) (fun a e b f c g => Kb (fun z => e z.2) (fun z => z.2 f) (fun z => z.2 g)) (fun a e b f c g => Kw (Classical.not_not.mp c) g) (fun a e b f => Kh (Classical.not_not.mp b) f)
    (fun a e => Ks (Classical.not_not.mp a) (Classical.not_not.mp e))
