/-! ===== the belt's text: a clause ===== -/
def KL (T : List Nat) (B : tB) (r : List Nat) (R : rK) : Prop := PRK r R ∧
    (∀ d w (Q : Option ax_V → ax_S → Prop), 9 ≤ d → cB T w (sg r) B → (∀ y v, cQK T w R y v → Q y v) → ax_W shC (d + 1) mX1_readsClause Q 7 [some (ax_r 2), none] [ax_i (hdI (sg r))] w) ∧
    (∀ d w (Q : Option ax_V → ax_S → Prop), 9 ≤ d → mB T w (sg r) B → (∀ v x1, mQK T w R x1 v → ax_W shM (d + 1) mX12_readBelt Q 213 [some (ax_r 0), some (ax_i x1), none, none] [] v) → ax_W shM (d + 1) mX12_readBelt Q 64 [some (ax_r 0), some (ax_i (nI B.ru)), none, none] [ax_i (hdI (sg r))] w)
def put_s (B : tB) (g : Nat → Nat) : tB := mkB 1 B.nh B.nw g B.H B.W
theorem bok_s {B : tB} (hB : bok B) (h0 : B.ru = 0) {g : Nat → Nat} (hg : gok 0 g) : bok (put_s B g) := by
  obtain ⟨b1, b2, b3, b4, b5, b6⟩ := hB
  exact ⟨hg, b2, b3, b4, b5, Nat.le_refl _⟩
theorem kl_s {T : List Nat} (hT : tkOk T) {B : tB} (hB : bok B) {r t : List Nat} (hr : ∀ c ∈ r, c ≤ 255) (ht : sg r = 115 :: t) (h0 : B.ru = 0) : ∃ R, KL T B r R := by
  have hsl := sg_len r
  have hs := sg_le hr
  have htl : t.length + 1 ≤ r.length := by rw [ht] at hsl; exact hsl
  have hts : ∀ c ∈ t, c ≤ 255 := fun c hc => hs c (by rw [ht]; exact List.mem_cons_of_mem _ hc)
  have tin : ∀ c ∈ t, c ∈ r := fun c hc => sg_sub (by rw [ht]; exact List.mem_cons_of_mem _ hc)
  have eL : hdI (sg r) = (115 : Int32) := by rw [ht]; rfl
  obtain ⟨R1, p1, c1, m1⟩ := nt_items hT (k := 0) (b := 0) (by omega) (by show 0 + 2 ≤ 2; omega) hts
  have cgo : ∀ d w (Q : Option ax_V → ax_S → Prop), 9 ≤ d → cB T w (sg r) B → (∀ y v, cQI T 0 (0) (ax_ui (ax_ui w 1 2 (w.1 1 2 + 1)) 2 4 1) R1 y v → ∃ x : Int32, y = some (ax_i x) ∧ (x = 0 ∨ x = 1) ∧ Q (some (ax_i x)) v) → ax_W shC (d + 1) mX1_readsClause Q 7 [some (ax_r 2), none] [ax_i (hdI (sg r))] w := by
    intro d w Q hd hw K
    have hw1 := hw.1
    rw [ht] at hw1
    obtain ⟨-, -, v3, -⟩ := hw1.cons hT
    obtain ⟨-, a1, a2, a3, -⟩ := hw
    refine s7 w _ (fun z _ _ => absurd (show hdI (sg r) = 115 ∧ w.1 2 4 = 0 from ⟨eL, by rw [a1, h0]; rfl⟩) z) (fun _ _ => ?_) (fun z => absurd (eL.symm.trans z) (by decide)) (fun z => absurd (eL.symm.trans z) (by decide))
    have f0 : fo (fun c i => c = 2 ∧ i = 4) (ax_ui (ax_ui w 1 2 (w.1 1 2 + 1)) 2 4 1) (ax_ui w 1 2 (w.1 1 2 + 1)) := fo.rfl'.ui ⟨rfl, rfl⟩
    refine (c1 d _ (by omega) (v3.to f0.1 (by omega))).mono (fun y v hv => ?_)
    obtain ⟨x, x1, x2, x3⟩ := K y v hv
    exact ⟨x, x1, s_X1_readsClause_50 (by omega) v x x3 x2⟩
  have mgo : ∀ d w (Q : Option ax_V → ax_S → Prop), 9 ≤ d → mB T w (sg r) B → (∀ v, mQI T 0 (0) (ax_ui w 0 3 (w.1 0 3 + 1)) R1 none v → ax_W shM (d + 1) mX12_readBelt Q 213 [some (ax_r 0), some (ax_i 1), none, none] [] v) → ax_W shM (d + 1) mX12_readBelt Q 64 [some (ax_r 0), some (ax_i (nI B.ru)), none, none] [ax_i (hdI (sg r))] w := by
    intro d w Q hd hw K
    have hw1 := hw.1
    rw [ht] at hw1
    obtain ⟨-, -, v3, -⟩ := hw1.cons hT
    obtain ⟨-, a0, a2, a3, -⟩ := hw
    refine s64 (by omega) w _ _ (fun z _ _ => absurd (show hdI (sg r) = 115 ∧ nI B.ru = 0 from ⟨eL, by rw [h0]; rfl⟩) z) (fun _ _ => ?_) (fun z => absurd (eL.symm.trans z) (by decide)) (fun z => absurd (eL.symm.trans z) (by decide))
    rw [eL]
    have f0 : fo (fun c i => c = 0 ∧ i = 3) (ax_ui w 0 3 (w.1 0 3 + 1)) w := fo.rfl'.ui ⟨rfl, rfl⟩
    refine (m1 d _ (by omega) v3 (by rw [f0.1 0 4 (by omega)]; exact a0)).mono (fun y v hv => ?_)
    obtain ⟨rfl, hv'⟩ := hv
    exact ⟨rfl, s_X12_readBelt_98 (by omega) v _ (K v ⟨rfl, hv'⟩)⟩
  have fC : ∀ w : ax_S, fo beC (ax_ui (ax_ui w 1 2 (w.1 1 2 + 1)) 2 4 1) w := fun w => (fo.rfl'.ui (Or.inl ⟨rfl, Or.inl rfl⟩)).ui (Or.inr (Or.inl rfl))
  have fM : ∀ w : ax_S, fo beM (ax_ui w 0 3 (w.1 0 3 + 1)) w := fun w => fo.rfl'.ui (Or.inl ⟨rfl, Or.inl rfl⟩)
  rcases R1 with n | s | p
  · refine ⟨Sum.inl n, Nat.le_trans (show n ≤ t.length from p1) (Nat.le_of_succ_le htl), fun d w Q hd hw K => ?_, fun d w Q hd hw K => ?_⟩
    · exact cgo d w Q hd hw (fun y v hv => ⟨0, hv.2.1, Or.inl rfl, K _ _ ⟨(fr_be (by omega) hv.1).trans (fC w), rfl, hv.2.2⟩⟩)
    · refine mgo d w Q hd hw (fun v hv => K _ _ ?_)
      obtain ⟨-, f1, h1, h2⟩ := hv
      exact ⟨(fr_bm (by omega) f1).trans (fM w), h1, h2⟩
  · refine ⟨Sum.inr (Sum.inl s), ⟨by have := p1.1; omega, p1.2⟩, fun d w Q hd hw K => ?_, fun d w Q hd hw K => ?_⟩
    · exact cgo d w Q hd hw (fun y v hv => ⟨0, hv.2.1, Or.inl rfl, K _ _ ⟨(fr_be (by omega) hv.1).trans (fC w), rfl, hv.2.2⟩⟩)
    · refine mgo d w Q hd hw (fun v hv => K _ _ ?_)
      obtain ⟨-, f1, h1, h2⟩ := hv
      exact ⟨(fr_bm (by omega) f1).trans (fM w), h1, h2⟩
  · refine ⟨Sum.inr (Sum.inr (put_s B p.1, p.2)), ⟨by have := p1.1; show p.2.length + 1 ≤ r.length; omega, bok_s hB h0 p1.2.1, fun c hc => tin c (p1.2.2 c hc)⟩, fun d w Q hd hw K => ?_, fun d w Q hd hw K => ?_⟩
    · refine cgo d w Q hd hw (fun y v hv => ⟨1, hv.2.1, Or.inr rfl, K _ _ ⟨(fr_be (by omega) hv.1).trans (fC w), rfl, hv.2.2.1, ?_⟩⟩)
      obtain ⟨f1, -, -, g1⟩ := hv
      obtain ⟨-, a1, a2, a3, a4, a5, a6⟩ := hw
      refine ⟨(f1.1 2 4 (by unfold cFr nuS; omega)).trans (ui_same _ _ _ _), by rw [f1.1 2 5 (by unfold cFr nuS; omega), ui_idx (by omega), ui_cell (by omega)]; exact a2, by rw [f1.1 2 6 (by unfold cFr nuS; omega), ui_idx (by omega), ui_cell (by omega)]; exact a3, ?_, fun i hi => by rw [f1.1 16 i (by unfold cFr nuS; omega), ui_cell (by omega), ui_cell (by omega)]; exact a5 i hi, fun i hi => by rw [f1.1 17 i (by unfold cFr nuS; omega), ui_cell (by omega), ui_cell (by omega)]; exact a6 i hi⟩
      intro i hi
      have := g1 i hi
      rw [Nat.zero_add] at this; exact this
    · refine mgo d w Q hd hw (fun v hv => K _ _ ?_)
      obtain ⟨-, f1, h1, h2, g1⟩ := hv
      obtain ⟨-, -, a2, a3, a4, a5, a6⟩ := hw
      refine ⟨(fr_bm (by omega) f1).trans (fM w), ⟨h1, h2, by rw [f1.1 0 20 (by unfold mFr nuM; omega), ui_idx (by omega)]; exact a2, by rw [f1.1 0 21 (by unfold mFr nuM; omega), ui_idx (by omega)]; exact a3, ?_, fun i hi => by rw [f1.1 12 i (by unfold mFr nuM; omega), ui_cell (by omega)]; exact a5 i hi, fun i hi => by rw [f1.1 13 i (by unfold mFr nuM; omega), ui_cell (by omega)]; exact a6 i hi⟩, rfl⟩
      intro i hi
      have := g1 i hi
      rw [Nat.zero_add] at this; exact this
def put_h (B : tB) (g : Nat → Nat) : tB := mkB B.ru (B.nh + 1) B.nw B.S (fun j => if 4 * B.nh ≤ j then g (j - 4 * B.nh) else B.H j) B.W
theorem bok_h {B : tB} (hB : bok B) (h0 : B.nh < 8) {g : Nat → Nat} (hg : gok 1 g) : bok (put_h B g) := by
  obtain ⟨b1, b2, b3, b4, b5, b6⟩ := hB
  refine ⟨b1, fun h hh => ?_, b3, by show B.nh + 1 ≤ 8; omega, by exact b5, b6⟩
  have hh' : h < B.nh + 1 := hh
  intro i hi
  have hi' : i < 4 := hi
  show loB (kF 1 + i) ≤ (if 4 * B.nh ≤ 4 * h + i then g (4 * h + i - 4 * B.nh) else B.H (4 * h + i)) ∧ (if 4 * B.nh ≤ 4 * h + i then g (4 * h + i - 4 * B.nh) else B.H (4 * h + i)) ≤ hiB (kF 1 + i)
  by_cases e : h = B.nh
  · rw [if_pos (by omega), show 4 * h + i - 4 * B.nh = i by omega]; exact hg i hi
  · rw [if_neg (by omega)]; exact b2 h (by omega) i hi
theorem kl_h {T : List Nat} (hT : tkOk T) {B : tB} (hB : bok B) {r t : List Nat} (hr : ∀ c ∈ r, c ≤ 255) (ht : sg r = 104 :: t) (h0 : B.nh < 8) : ∃ R, KL T B r R := by
  have hsl := sg_len r
  have hs := sg_le hr
  have htl : t.length + 1 ≤ r.length := by rw [ht] at hsl; exact hsl
  have hts : ∀ c ∈ t, c ≤ 255 := fun c hc => hs c (by rw [ht]; exact List.mem_cons_of_mem _ hc)
  have tin : ∀ c ∈ t, c ∈ r := fun c hc => sg_sub (by rw [ht]; exact List.mem_cons_of_mem _ hc)
  have eL : hdI (sg r) = (104 : Int32) := by rw [ht]; rfl
  obtain ⟨R1, p1, c1, m1⟩ := nt_items hT (k := 1) (b := 4 * B.nh) (by omega) (by show 4 * B.nh + 4 ≤ 32; omega) hts
  have cgo : ∀ d w (Q : Option ax_V → ax_S → Prop), 9 ≤ d → cB T w (sg r) B → (∀ y v, cQI T 1 (4 * B.nh) (ax_ui (ax_ui w 1 2 (w.1 1 2 + 1)) 2 5 (nI (B.nh + 1))) R1 y v → ∃ x : Int32, y = some (ax_i x) ∧ (x = 0 ∨ x = 1) ∧ Q (some (ax_i x)) v) → ax_W shC (d + 1) mX1_readsClause Q 7 [some (ax_r 2), none] [ax_i (hdI (sg r))] w := by
    intro d w Q hd hw K
    have hw1 := hw.1
    rw [ht] at hw1
    obtain ⟨-, -, v3, -⟩ := hw1.cons hT
    obtain ⟨-, a1, a2, a3, -⟩ := hw
    refine s7 w _ (fun _ z _ => absurd (show hdI (sg r) = 104 ∧ ¬ (8 : Int32) ≤ w.1 2 5 from ⟨eL, by rw [a2]; exact fun q => absurd ((n_le 8 B.nh).mp q) (by omega)⟩) z) (fun z => absurd (eL.symm.trans z) (by decide)) (fun _ _ => ?_) (fun z => absurd (eL.symm.trans z) (by decide))
    rw [a2, nI_1, show (nI (B.nh + 1) - (1 : Int32)) = nI B.nh from n_sub (B.nh + 1) 1, show nI B.nh * (4 : Int32) = nI (4 * B.nh) from by rw [Nat.mul_comm]; exact n_mul B.nh 4]
    have f0 : fo (fun c i => c = 2 ∧ i = 5) (ax_ui (ax_ui w 1 2 (w.1 1 2 + 1)) 2 5 (nI (B.nh + 1))) (ax_ui w 1 2 (w.1 1 2 + 1)) := fo.rfl'.ui ⟨rfl, rfl⟩
    refine (c1 d _ (by omega) (v3.to f0.1 (by omega))).mono (fun y v hv => ?_)
    obtain ⟨x, x1, x2, x3⟩ := K y v hv
    exact ⟨x, x1, s_X1_readsClause_108 (by omega) v x x3 x2⟩
  have mgo : ∀ d w (Q : Option ax_V → ax_S → Prop), 9 ≤ d → mB T w (sg r) B → (∀ v, mQI T 1 (4 * B.nh) (ax_ui w 0 3 (w.1 0 3 + 1)) R1 none v → ax_W shM (d + 1) mX12_readBelt Q 213 [some (ax_r 0), some (ax_i (nI B.ru)), none, none] [] (ax_ui v 0 20 (v.1 0 20 + 1))) → ax_W shM (d + 1) mX12_readBelt Q 64 [some (ax_r 0), some (ax_i (nI B.ru)), none, none] [ax_i (hdI (sg r))] w := by
    intro d w Q hd hw K
    have hw1 := hw.1
    rw [ht] at hw1
    obtain ⟨-, -, v3, -⟩ := hw1.cons hT
    obtain ⟨-, a0, a2, a3, -⟩ := hw
    refine s64 (by omega) w _ _ (fun _ z _ => absurd (show hdI (sg r) = 104 ∧ ¬ (8 : Int32) ≤ w.1 0 20 from ⟨eL, by rw [a2]; exact fun q => absurd ((n_le 8 B.nh).mp q) (by omega)⟩) z) (fun z => absurd (eL.symm.trans z) (by decide)) (fun _ _ => ?_) (fun z => absurd (eL.symm.trans z) (by decide))
    rw [eL, a2, show (4 : Int32) * nI B.nh = nI (4 * B.nh) from n_mul 4 B.nh]
    have f0 : fo (fun c i => c = 0 ∧ i = 3) (ax_ui w 0 3 (w.1 0 3 + 1)) w := fo.rfl'.ui ⟨rfl, rfl⟩
    refine (m1 d _ (by omega) v3 (by rw [f0.1 0 4 (by omega)]; exact a0)).mono (fun y v hv => ?_)
    obtain ⟨rfl, hv'⟩ := hv
    exact ⟨rfl, s_X12_readBelt_142 (by omega) v _ (K v ⟨rfl, hv'⟩)⟩
  have fC : ∀ w : ax_S, fo beC (ax_ui (ax_ui w 1 2 (w.1 1 2 + 1)) 2 5 (nI (B.nh + 1))) w := fun w => (fo.rfl'.ui (Or.inl ⟨rfl, Or.inl rfl⟩)).ui (Or.inr (Or.inl rfl))
  have fM : ∀ w : ax_S, fo beM (ax_ui w 0 3 (w.1 0 3 + 1)) w := fun w => fo.rfl'.ui (Or.inl ⟨rfl, Or.inl rfl⟩)
  have fN : ∀ v : ax_S, fo (fun c i => c = 0 ∧ i = 20) (ax_ui v 0 20 (v.1 0 20 + 1)) v := fun v => fo.rfl'.ui ⟨rfl, rfl⟩
  have fN2 : ∀ v : ax_S, fo beM (ax_ui v 0 20 (v.1 0 20 + 1)) v := fun v => (fN v).mono (fun c i z => by unfold beM; omega)
  rcases R1 with n | s | p
  · refine ⟨Sum.inl n, Nat.le_trans (show n ≤ t.length from p1) (Nat.le_of_succ_le htl), fun d w Q hd hw K => ?_, fun d w Q hd hw K => ?_⟩
    · exact cgo d w Q hd hw (fun y v hv => ⟨0, hv.2.1, Or.inl rfl, K _ _ ⟨(fr_be (by omega) hv.1).trans (fC w), rfl, hv.2.2⟩⟩)
    · refine mgo d w Q hd hw (fun v hv => K _ _ ?_)
      obtain ⟨-, f1, h1, h2⟩ := hv
      exact ⟨(fN2 v).trans ((fr_bm (by omega) f1).trans (fM w)), by rw [(fN v).1 0 4 (by omega)]; exact h1, by rw [(fN v).1 0 4 (by omega)]; exact h2⟩
  · refine ⟨Sum.inr (Sum.inl s), ⟨by have := p1.1; omega, p1.2⟩, fun d w Q hd hw K => ?_, fun d w Q hd hw K => ?_⟩
    · exact cgo d w Q hd hw (fun y v hv => ⟨0, hv.2.1, Or.inl rfl, K _ _ ⟨(fr_be (by omega) hv.1).trans (fC w), rfl, hv.2.2⟩⟩)
    · refine mgo d w Q hd hw (fun v hv => K _ _ ?_)
      obtain ⟨-, f1, h1, h2⟩ := hv
      exact ⟨(fN2 v).trans ((fr_bm (by omega) f1).trans (fM w)), h1.to (fN v).1 (by omega), by rw [(fN v).1 0 4 (by omega)]; exact h2⟩
  · refine ⟨Sum.inr (Sum.inr (put_h B p.1, p.2)), ⟨by have := p1.1; show p.2.length + 1 ≤ r.length; omega, bok_h hB h0 p1.2.1, fun c hc => tin c (p1.2.2 c hc)⟩, fun d w Q hd hw K => ?_, fun d w Q hd hw K => ?_⟩
    · refine cgo d w Q hd hw (fun y v hv => ⟨1, hv.2.1, Or.inr rfl, K _ _ ⟨(fr_be (by omega) hv.1).trans (fC w), rfl, hv.2.2.1, ?_⟩⟩)
      obtain ⟨f1, -, -, g1⟩ := hv
      obtain ⟨-, a1, a2, a3, a4, a5, a6⟩ := hw
      refine ⟨by rw [f1.1 2 4 (by unfold cFr nuS; omega), ui_idx (by omega), ui_cell (by omega)]; exact a1, (f1.1 2 5 (by unfold cFr nuS; omega)).trans (ui_same _ _ _ _), by rw [f1.1 2 6 (by unfold cFr nuS; omega), ui_idx (by omega), ui_cell (by omega)]; exact a3, fun i hi => by rw [f1.1 15 i (by unfold cFr nuS; omega), ui_cell (by omega), ui_cell (by omega)]; exact a4 i hi, ?_, fun i hi => by rw [f1.1 17 i (by unfold cFr nuS; omega), ui_cell (by omega), ui_cell (by omega)]; exact a6 i hi⟩
      intro i hi
      have hi' : i < 4 * (B.nh + 1) := hi
      show v.1 16 i = nI (if 4 * B.nh ≤ i then p.1 (i - 4 * B.nh) else B.H i)
      by_cases e : 4 * B.nh ≤ i
      · have := g1 (i - 4 * B.nh) (by show i - 4 * B.nh < 4; omega)
        rw [show 4 * B.nh + (i - 4 * B.nh) = i by omega] at this
        rw [if_pos e]; exact this
      · rw [if_neg e, f1.1 16 i (by unfold cFr nuS; omega), ui_cell (by omega), ui_cell (by omega)]; exact a5 i (by omega)
    · refine mgo d w Q hd hw (fun v hv => K _ _ ?_)
      obtain ⟨-, f1, h1, h2, g1⟩ := hv
      obtain ⟨-, -, a2, a3, a4, a5, a6⟩ := hw
      refine ⟨(fN2 v).trans ((fr_bm (by omega) f1).trans (fM w)), ⟨h1.to (fN v).1 (by omega), by rw [(fN v).1 0 4 (by omega)]; exact h2, by rw [ui_same, f1.1 0 20 (by unfold mFr nuM; omega), ui_idx (by omega), a2, nI_1]; rfl, by rw [(fN v).1 0 21 (by omega), f1.1 0 21 (by unfold mFr nuM; omega), ui_idx (by omega)]; exact a3, fun i hi => by rw [(fN v).1 11 i (by omega), f1.1 11 i (by unfold mFr nuM; omega), ui_cell (by omega)]; exact a4 i hi, ?_, fun i hi => by rw [(fN v).1 13 i (by omega), f1.1 13 i (by unfold mFr nuM; omega), ui_cell (by omega)]; exact a6 i hi⟩, rfl⟩
      intro i hi
      have hi' : i < 4 * (B.nh + 1) := hi
      show _ = nI (if 4 * B.nh ≤ i then p.1 (i - 4 * B.nh) else B.H i)
      rw [(fN v).1 12 i (by omega)]
      by_cases e : 4 * B.nh ≤ i
      · have := g1 (i - 4 * B.nh) (by show i - 4 * B.nh < 4; omega)
        rw [show 4 * B.nh + (i - 4 * B.nh) = i by omega] at this
        rw [if_pos e]; exact this
      · rw [if_neg e, f1.1 12 i (by unfold mFr nuM; omega), ui_cell (by omega)]; exact a5 i (by omega)
def put_w (B : tB) (g : Nat → Nat) : tB := mkB B.ru B.nh (B.nw + 1) B.S B.H (fun j => if 3 * B.nw ≤ j then g (j - 3 * B.nw) else B.W j)
theorem bok_w {B : tB} (hB : bok B) (h0 : B.nw < 8) {g : Nat → Nat} (hg : gok 2 g) : bok (put_w B g) := by
  obtain ⟨b1, b2, b3, b4, b5, b6⟩ := hB
  refine ⟨b1, b2, fun h hh => ?_, by exact b4, by show B.nw + 1 ≤ 8; omega, b6⟩
  have hh' : h < B.nw + 1 := hh
  intro i hi
  have hi' : i < 3 := hi
  show loB (kF 2 + i) ≤ (if 3 * B.nw ≤ 3 * h + i then g (3 * h + i - 3 * B.nw) else B.W (3 * h + i)) ∧ (if 3 * B.nw ≤ 3 * h + i then g (3 * h + i - 3 * B.nw) else B.W (3 * h + i)) ≤ hiB (kF 2 + i)
  by_cases e : h = B.nw
  · rw [if_pos (by omega), show 3 * h + i - 3 * B.nw = i by omega]; exact hg i hi
  · rw [if_neg (by omega)]; exact b3 h (by omega) i hi
theorem kl_w {T : List Nat} (hT : tkOk T) {B : tB} (hB : bok B) {r t : List Nat} (hr : ∀ c ∈ r, c ≤ 255) (ht : sg r = 119 :: t) (h0 : B.nw < 8) : ∃ R, KL T B r R := by
  have hsl := sg_len r
  have hs := sg_le hr
  have htl : t.length + 1 ≤ r.length := by rw [ht] at hsl; exact hsl
  have hts : ∀ c ∈ t, c ≤ 255 := fun c hc => hs c (by rw [ht]; exact List.mem_cons_of_mem _ hc)
  have tin : ∀ c ∈ t, c ∈ r := fun c hc => sg_sub (by rw [ht]; exact List.mem_cons_of_mem _ hc)
  have eL : hdI (sg r) = (119 : Int32) := by rw [ht]; rfl
  obtain ⟨R1, p1, c1, m1⟩ := nt_items hT (k := 2) (b := 3 * B.nw) (by omega) (by show 3 * B.nw + 3 ≤ 24; omega) hts
  have cgo : ∀ d w (Q : Option ax_V → ax_S → Prop), 9 ≤ d → cB T w (sg r) B → (∀ y v, cQI T 2 (3 * B.nw) (ax_ui (ax_ui w 1 2 (w.1 1 2 + 1)) 2 6 (nI (B.nw + 1))) R1 y v → ∃ x : Int32, y = some (ax_i x) ∧ (x = 0 ∨ x = 1) ∧ Q (some (ax_i x)) v) → ax_W shC (d + 1) mX1_readsClause Q 7 [some (ax_r 2), none] [ax_i (hdI (sg r))] w := by
    intro d w Q hd hw K
    have hw1 := hw.1
    rw [ht] at hw1
    obtain ⟨-, -, v3, -⟩ := hw1.cons hT
    obtain ⟨-, a1, a2, a3, -⟩ := hw
    refine s7 w _ (fun _ _ z => absurd (show hdI (sg r) = 119 ∧ ¬ (8 : Int32) ≤ w.1 2 6 from ⟨eL, by rw [a3]; exact fun q => absurd ((n_le 8 B.nw).mp q) (by omega)⟩) z) (fun z => absurd (eL.symm.trans z) (by decide)) (fun z => absurd (eL.symm.trans z) (by decide)) (fun _ _ => ?_)
    rw [a3, nI_1, show (nI (B.nw + 1) - (1 : Int32)) = nI B.nw from n_sub (B.nw + 1) 1, show nI B.nw * (3 : Int32) = nI (3 * B.nw) from by rw [Nat.mul_comm]; exact n_mul B.nw 3]
    have f0 : fo (fun c i => c = 2 ∧ i = 6) (ax_ui (ax_ui w 1 2 (w.1 1 2 + 1)) 2 6 (nI (B.nw + 1))) (ax_ui w 1 2 (w.1 1 2 + 1)) := fo.rfl'.ui ⟨rfl, rfl⟩
    refine (c1 d _ (by omega) (v3.to f0.1 (by omega))).mono (fun y v hv => ?_)
    obtain ⟨x, x1, x2, x3⟩ := K y v hv
    exact ⟨x, x1, s_X1_readsClause_169 (by omega) v x x3 x2⟩
  have mgo : ∀ d w (Q : Option ax_V → ax_S → Prop), 9 ≤ d → mB T w (sg r) B → (∀ v, mQI T 2 (3 * B.nw) (ax_ui w 0 3 (w.1 0 3 + 1)) R1 none v → ax_W shM (d + 1) mX12_readBelt Q 213 [some (ax_r 0), some (ax_i (nI B.ru)), none, none] [] (ax_ui v 0 21 (v.1 0 21 + 1))) → ax_W shM (d + 1) mX12_readBelt Q 64 [some (ax_r 0), some (ax_i (nI B.ru)), none, none] [ax_i (hdI (sg r))] w := by
    intro d w Q hd hw K
    have hw1 := hw.1
    rw [ht] at hw1
    obtain ⟨-, -, v3, -⟩ := hw1.cons hT
    obtain ⟨-, a0, a2, a3, -⟩ := hw
    refine s64 (by omega) w _ _ (fun _ _ z => absurd (show hdI (sg r) = 119 ∧ ¬ (8 : Int32) ≤ w.1 0 21 from ⟨eL, by rw [a3]; exact fun q => absurd ((n_le 8 B.nw).mp q) (by omega)⟩) z) (fun z => absurd (eL.symm.trans z) (by decide)) (fun z => absurd (eL.symm.trans z) (by decide)) (fun _ _ => ?_)
    rw [eL, a3, show (3 : Int32) * nI B.nw = nI (3 * B.nw) from n_mul 3 B.nw]
    have f0 : fo (fun c i => c = 0 ∧ i = 3) (ax_ui w 0 3 (w.1 0 3 + 1)) w := fo.rfl'.ui ⟨rfl, rfl⟩
    refine (m1 d _ (by omega) v3 (by rw [f0.1 0 4 (by omega)]; exact a0)).mono (fun y v hv => ?_)
    obtain ⟨rfl, hv'⟩ := hv
    exact ⟨rfl, s_X12_readBelt_196 (by omega) v _ (K v ⟨rfl, hv'⟩)⟩
  have fC : ∀ w : ax_S, fo beC (ax_ui (ax_ui w 1 2 (w.1 1 2 + 1)) 2 6 (nI (B.nw + 1))) w := fun w => (fo.rfl'.ui (Or.inl ⟨rfl, Or.inl rfl⟩)).ui (Or.inr (Or.inl rfl))
  have fM : ∀ w : ax_S, fo beM (ax_ui w 0 3 (w.1 0 3 + 1)) w := fun w => fo.rfl'.ui (Or.inl ⟨rfl, Or.inl rfl⟩)
  have fN : ∀ v : ax_S, fo (fun c i => c = 0 ∧ i = 21) (ax_ui v 0 21 (v.1 0 21 + 1)) v := fun v => fo.rfl'.ui ⟨rfl, rfl⟩
  have fN2 : ∀ v : ax_S, fo beM (ax_ui v 0 21 (v.1 0 21 + 1)) v := fun v => (fN v).mono (fun c i z => by unfold beM; omega)
  rcases R1 with n | s | p
  · refine ⟨Sum.inl n, Nat.le_trans (show n ≤ t.length from p1) (Nat.le_of_succ_le htl), fun d w Q hd hw K => ?_, fun d w Q hd hw K => ?_⟩
    · exact cgo d w Q hd hw (fun y v hv => ⟨0, hv.2.1, Or.inl rfl, K _ _ ⟨(fr_be (by omega) hv.1).trans (fC w), rfl, hv.2.2⟩⟩)
    · refine mgo d w Q hd hw (fun v hv => K _ _ ?_)
      obtain ⟨-, f1, h1, h2⟩ := hv
      exact ⟨(fN2 v).trans ((fr_bm (by omega) f1).trans (fM w)), by rw [(fN v).1 0 4 (by omega)]; exact h1, by rw [(fN v).1 0 4 (by omega)]; exact h2⟩
  · refine ⟨Sum.inr (Sum.inl s), ⟨by have := p1.1; omega, p1.2⟩, fun d w Q hd hw K => ?_, fun d w Q hd hw K => ?_⟩
    · exact cgo d w Q hd hw (fun y v hv => ⟨0, hv.2.1, Or.inl rfl, K _ _ ⟨(fr_be (by omega) hv.1).trans (fC w), rfl, hv.2.2⟩⟩)
    · refine mgo d w Q hd hw (fun v hv => K _ _ ?_)
      obtain ⟨-, f1, h1, h2⟩ := hv
      exact ⟨(fN2 v).trans ((fr_bm (by omega) f1).trans (fM w)), h1.to (fN v).1 (by omega), by rw [(fN v).1 0 4 (by omega)]; exact h2⟩
  · refine ⟨Sum.inr (Sum.inr (put_w B p.1, p.2)), ⟨by have := p1.1; show p.2.length + 1 ≤ r.length; omega, bok_w hB h0 p1.2.1, fun c hc => tin c (p1.2.2 c hc)⟩, fun d w Q hd hw K => ?_, fun d w Q hd hw K => ?_⟩
    · refine cgo d w Q hd hw (fun y v hv => ⟨1, hv.2.1, Or.inr rfl, K _ _ ⟨(fr_be (by omega) hv.1).trans (fC w), rfl, hv.2.2.1, ?_⟩⟩)
      obtain ⟨f1, -, -, g1⟩ := hv
      obtain ⟨-, a1, a2, a3, a4, a5, a6⟩ := hw
      refine ⟨by rw [f1.1 2 4 (by unfold cFr nuS; omega), ui_idx (by omega), ui_cell (by omega)]; exact a1, by rw [f1.1 2 5 (by unfold cFr nuS; omega), ui_idx (by omega), ui_cell (by omega)]; exact a2, (f1.1 2 6 (by unfold cFr nuS; omega)).trans (ui_same _ _ _ _), fun i hi => by rw [f1.1 15 i (by unfold cFr nuS; omega), ui_cell (by omega), ui_cell (by omega)]; exact a4 i hi, fun i hi => by rw [f1.1 16 i (by unfold cFr nuS; omega), ui_cell (by omega), ui_cell (by omega)]; exact a5 i hi, ?_⟩
      intro i hi
      have hi' : i < 3 * (B.nw + 1) := hi
      show v.1 17 i = nI (if 3 * B.nw ≤ i then p.1 (i - 3 * B.nw) else B.W i)
      by_cases e : 3 * B.nw ≤ i
      · have := g1 (i - 3 * B.nw) (by show i - 3 * B.nw < 3; omega)
        rw [show 3 * B.nw + (i - 3 * B.nw) = i by omega] at this
        rw [if_pos e]; exact this
      · rw [if_neg e, f1.1 17 i (by unfold cFr nuS; omega), ui_cell (by omega), ui_cell (by omega)]; exact a6 i (by omega)
    · refine mgo d w Q hd hw (fun v hv => K _ _ ?_)
      obtain ⟨-, f1, h1, h2, g1⟩ := hv
      obtain ⟨-, -, a2, a3, a4, a5, a6⟩ := hw
      refine ⟨(fN2 v).trans ((fr_bm (by omega) f1).trans (fM w)), ⟨h1.to (fN v).1 (by omega), by rw [(fN v).1 0 4 (by omega)]; exact h2, by rw [(fN v).1 0 20 (by omega), f1.1 0 20 (by unfold mFr nuM; omega), ui_idx (by omega)]; exact a2, by rw [ui_same, f1.1 0 21 (by unfold mFr nuM; omega), ui_idx (by omega), a3, nI_1]; rfl, fun i hi => by rw [(fN v).1 11 i (by omega), f1.1 11 i (by unfold mFr nuM; omega), ui_cell (by omega)]; exact a4 i hi, fun i hi => by rw [(fN v).1 12 i (by omega), f1.1 12 i (by unfold mFr nuM; omega), ui_cell (by omega)]; exact a5 i hi, ?_⟩, rfl⟩
      intro i hi
      have hi' : i < 3 * (B.nw + 1) := hi
      show _ = nI (if 3 * B.nw ≤ i then p.1 (i - 3 * B.nw) else B.W i)
      rw [(fN v).1 13 i (by omega)]
      by_cases e : 3 * B.nw ≤ i
      · have := g1 (i - 3 * B.nw) (by show i - 3 * B.nw < 3; omega)
        rw [show 3 * B.nw + (i - 3 * B.nw) = i by omega] at this
        rw [if_pos e]; exact this
      · rw [if_neg e, f1.1 13 i (by unfold mFr nuM; omega), ui_cell (by omega)]; exact a6 i (by omega)
theorem nt_kl {T : List Nat} (hT : tkOk T) {B : tB} (hB : bok B) {r : List Nat} (hr : ∀ c ∈ r, c ≤ 255) : ∃ R, KL T B r R := by
  have hsl := sg_len r
  have hs := sg_le hr
  have hTl := hT.1
  have hru := hB.2.2.2.2.2
  have hnh := hB.2.2.2.1
  have hnw := hB.2.2.2.2.1
  have k1 := hdI_eq (r := sg r) (x := 115) hs (by omega)
  have k2 := hdI_eq (r := sg r) (x := 104) hs (by omega)
  have k3 := hdI_eq (r := sg r) (x := 119) hs (by omega)
  by_cases a1 : (∃ t, sg r = 115 :: t) ∧ B.ru = 0
  · obtain ⟨⟨t, ht⟩, h0⟩ := a1
    exact kl_s hT hB hr ht h0
  by_cases a2 : (∃ t, sg r = 104 :: t) ∧ B.nh < 8
  · obtain ⟨⟨t, ht⟩, h0⟩ := a2
    exact kl_h hT hB hr ht h0
  by_cases a3 : (∃ t, sg r = 119 :: t) ∧ B.nw < 8
  · obtain ⟨⟨t, ht⟩, h0⟩ := a3
    exact kl_w hT hB hr ht h0
  refine ⟨Sum.inl (sg r).length, hsl, fun d w Q hd hw K => ?_, fun d w Q hd hw K => ?_⟩
  · have z1 : w.1 2 4 = 0 ↔ B.ru = 0 := by rw [hw.2.1]; exact n_eq B.ru 0
    have z2 : (8 : Int32) ≤ w.1 2 5 ↔ 8 ≤ B.nh := by rw [hw.2.2.1]; exact n_le 8 B.nh
    have z3 : (8 : Int32) ≤ w.1 2 6 ↔ 8 ≤ B.nw := by rw [hw.2.2.2.1]; exact n_le 8 B.nw
    exact s7 w _ (fun _ _ _ => K _ _ ⟨fo.rfl', rfl, hw.1.at⟩) (fun p q => absurd ⟨k1.mp p, z1.mp q⟩ a1) (fun p q => absurd ⟨k2.mp p, Nat.not_le.mp (fun z => q (z2.mpr z))⟩ a2) (fun p q => absurd ⟨k3.mp p, Nat.not_le.mp (fun z => q (z3.mpr z))⟩ a3)
  · have z1 : nI B.ru = 0 ↔ B.ru = 0 := n_eq B.ru 0
    have z2 : (8 : Int32) ≤ w.1 0 20 ↔ 8 ≤ B.nh := by rw [hw.2.2.1]; exact n_le 8 B.nh
    have z3 : (8 : Int32) ≤ w.1 0 21 ↔ 8 ≤ B.nw := by rw [hw.2.2.2.1]; exact n_le 8 B.nw
    refine s64 (by omega) w _ _ (fun _ _ _ => K _ _ ?_) (fun p q => absurd ⟨k1.mp p, z1.mp q⟩ a1) (fun p q => absurd ⟨k2.mp p, Nat.not_le.mp (fun z => q (z2.mpr z))⟩ a2) (fun p q => absurd ⟨k3.mp p, Nat.not_le.mp (fun z => q (z3.mpr z))⟩ a3)
    rw [if_neg (not_not_intro hw.2.1), hw.1.at]
    exact ⟨fo.rfl'.ui (by unfold beM; omega), ui_same _ _ _ _, by rw [ui_same]; exact n_m1 _⟩
