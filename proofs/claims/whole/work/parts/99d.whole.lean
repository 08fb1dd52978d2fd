/-! ===== the belt's text: is it whole ===== -/
def smB (B : tB) (w i : Nat) : Prop := (B.W (3 * w) = B.W (3 * i) ∧ B.W (3 * w + 1) = B.W (3 * i + 1)) ∨ (B.W (3 * w) = B.W (3 * i + 1) ∧ B.W (3 * w + 1) = B.W (3 * i))
def loS (B : tB) (w : Nat) : Prop := B.W (3 * w) < B.nh ∧ B.W (3 * w + 1) < B.nh ∧ B.W (3 * w) ≠ B.W (3 * w + 1) ∧ ¬ (B.H (4 * B.W (3 * w) + 3) = 2 ∧ B.H (4 * B.W (3 * w + 1) + 3) = 2)
def sndB (B : tB) (w : Nat) : Prop := loS B w ∧ ∀ i, i < w → ¬ smB B w i
def whB (B : tB) : Prop := 2 ≤ B.nh ∧ ∀ w, w < B.nw → sndB B w
/-- a yes or no -/
def yn (b : Int32) (P : Prop) : Prop := (b = 1 ∧ P) ∨ (b = 0 ∧ ¬ P)
theorem yn_if {P Q : Prop} [Decidable P] (h : P ↔ Q) : yn (if P then (1 : Int32) else 0) Q := by
  by_cases e : P
  · rw [if_pos e]; exact Or.inl ⟨rfl, h.mp e⟩
  · rw [if_neg e]; exact Or.inr ⟨rfl, fun z => e (h.mpr z)⟩
theorem yn.z {b : Int32} {P : Prop} (h : yn b P) : ¬ b = 0 ↔ P := by
  rcases h with ⟨rfl, h⟩ | ⟨rfl, h⟩
  · exact ⟨fun _ => h, fun _ => by decide⟩
  · exact ⟨fun z => absurd rfl z, fun z => absurd z h⟩
theorem yn.b {b : Int32} {P : Prop} (h : yn b P) : b = 0 ∨ b = 1 := by
  rcases h with ⟨rfl, h⟩ | ⟨rfl, h⟩
  · exact Or.inr rfl
  · exact Or.inl rfl
theorem W_b {B : tB} (hB : bok B) {w : Nat} (hw : w < B.nw) : B.W (3 * w) ≤ 7 ∧ B.W (3 * w + 1) ≤ 7 := by
  have h := hB.2.2.1 w hw
  exact ⟨(h 0 (by decide)).2, (h 1 (by decide)).2⟩
theorem ct_isWireSound {d : Nat} (hd : 3 ≤ d) {σ : ax_S} {B : tB} (hB : bok B) (h : cBs σ B) {w : Nat} (hw : w < B.nw) :
    ax_Ct shC d mX1_isWireSound [ax_r 2, ax_i (nI w)] (fun y u => ∃ b : Int32, y = some (ax_i b) ∧ yn b (sndB B w) ∧ u = σ) σ := by
  obtain ⟨d, rfl⟩ : ∃ e, d = e + 1 := ⟨d - 1, by omega⟩
  refine ax_Ct.of (lv := [some (ax_r 2), some (ax_i (nI w)), none, none, none, none, none]) (by decide +kernel) (fun ad => Nat.le_of_ble_eq_true rfl) (fun ad => rfl) ?_
  have hnw := hB.2.2.2.2.1
  have hnh := hB.2.2.2.1
  obtain ⟨a1, a2, a3, a4, a5, a6⟩ := h
  obtain ⟨b1, b2⟩ := W_b hB hw
  have e1 : nI w * (3 : Int32) = nI (3 * w) := by rw [Nat.mul_comm]; exact n_mul w 3
  have e2 : nI w * (3 : Int32) + 1 = nI (3 * w + 1) := by rw [e1, nI_1]
  have v1 : σ.1 17 (Int32.toNatClampNeg (nI w * (3 : Int32))) = nI (B.W (3 * w)) := by rw [e1, n_tn (3 * w)]; exact a6 _ (by omega)
  have v2 : σ.1 17 (Int32.toNatClampNeg (nI w * (3 : Int32) + 1)) = nI (B.W (3 * w + 1)) := by rw [e2, n_tn (3 * w + 1)]; exact a6 _ (by omega)
  have q1 : σ.1 2 5 ≤ nI (B.W (3 * w)) ↔ B.nh ≤ B.W (3 * w) := by rw [a2]; exact n_le _ _
  have q2 : σ.1 2 5 ≤ nI (B.W (3 * w + 1)) ↔ B.nh ≤ B.W (3 * w + 1) := by rw [a2]; exact n_le _ _
  have q3 : nI (B.W (3 * w)) = nI (B.W (3 * w + 1)) ↔ B.W (3 * w) = B.W (3 * w + 1) := n_eq _ _
  have c1 : nI (B.W (3 * w)) * (4 : Int32) + 3 = nI (4 * B.W (3 * w) + 3) := by
    rw [show nI (B.W (3 * w)) * (4 : Int32) = nI (4 * B.W (3 * w)) from by rw [Nat.mul_comm 4 (B.W (3 * w))]; exact n_mul _ 4]; exact n_add _ 3
  have c2 : nI (B.W (3 * w + 1)) * (4 : Int32) + 3 = nI (4 * B.W (3 * w + 1) + 3) := by
    rw [show nI (B.W (3 * w + 1)) * (4 : Int32) = nI (4 * B.W (3 * w + 1)) from by rw [Nat.mul_comm 4 (B.W (3 * w + 1))]; exact n_mul _ 4]; exact n_add _ 3
  have r1 : B.W (3 * w) < B.nh → (σ.1 16 (Int32.toNatClampNeg (nI (B.W (3 * w)) * (4 : Int32) + 3)) = (2 : Int32) ↔ B.H (4 * B.W (3 * w) + 3) = 2) := by
    intro z
    rw [c1, n_tn _, a5 _ (by omega)]
    have : B.H (4 * B.W (3 * w) + 3) ≤ hiB (kF 1 + 3) := (hB.2.1 (B.W (3 * w)) z 3 (by decide)).2
    have hh : hiB (kF 1 + 3) = 3 := by decide
    exact n_eq (B.H (4 * B.W (3 * w) + 3)) 2 (by omega)
  have r2 : B.W (3 * w + 1) < B.nh → (σ.1 16 (Int32.toNatClampNeg (nI (B.W (3 * w + 1)) * (4 : Int32) + 3)) = (2 : Int32) ↔ B.H (4 * B.W (3 * w + 1) + 3) = 2) := by
    intro z
    rw [c2, n_tn _, a5 _ (by omega)]
    have : B.H (4 * B.W (3 * w + 1) + 3) ≤ hiB (kF 1 + 3) := (hB.2.1 (B.W (3 * w + 1)) z 3 (by decide)).2
    have hh : hiB (kF 1 + 3) = 3 := by decide
    exact n_eq (B.H (4 * B.W (3 * w + 1) + 3)) 2 (by omega)
  have loop : ∀ f i, i + f = w → loS B w → (∀ q, q < i → ¬ smB B w q) → ax_W shC (d + 1) mX1_isWireSound (fun y u => ∃ b : Int32, y = some (ax_i b) ∧ yn b (sndB B w) ∧ u = σ) 62 [some (ax_r 2), some (ax_i (nI w)), some (ax_i (nI (B.W (3 * w)))), some (ax_i (nI (B.W (3 * w + 1)))), some (ax_i (nI i)), none, none] [] σ := by
    intro f
    induction f with
    | zero =>
      intro i hi hl hn
      have g : nI w ≤ nI i := (n_le _ _).mpr (by omega)
      exact s_X1_isWireSound_62 (by omega) σ _ _ _ _ (fun _ => ⟨1, rfl, Or.inl ⟨rfl, hl, fun q hq => hn q (by omega)⟩, rfl⟩) (fun z => absurd g z) (fun z => absurd g z) (fun z => absurd g z) (fun z => absurd g z) (fun z => absurd g z) (fun z => absurd g z) (fun z => absurd g z) (fun z => absurd g z) (fun z => absurd g z)
    | succ f ih =>
      intro i hi hl hn
      have g : ¬ nI w ≤ nI i := fun z => absurd ((n_le _ _).mp z) (by omega)
      obtain ⟨d1, d2⟩ := W_b hB (w := i) (by omega)
      have f1 : nI i * (3 : Int32) = nI (3 * i) := by rw [Nat.mul_comm]; exact n_mul i 3
      have f2 : nI i * (3 : Int32) + 1 = nI (3 * i + 1) := by rw [f1, nI_1]
      have u1 : σ.1 17 (Int32.toNatClampNeg (nI i * (3 : Int32))) = nI (B.W (3 * i)) := by rw [f1, n_tn (3 * i)]; exact a6 _ (by omega)
      have u2 : σ.1 17 (Int32.toNatClampNeg (nI i * (3 : Int32) + 1)) = nI (B.W (3 * i + 1)) := by rw [f2, n_tn (3 * i + 1)]; exact a6 _ (by omega)
      have p1 : nI (B.W (3 * w)) = nI (B.W (3 * i)) ↔ B.W (3 * w) = B.W (3 * i) := n_eq _ _
      have p2 : nI (B.W (3 * w)) = nI (B.W (3 * i + 1)) ↔ B.W (3 * w) = B.W (3 * i + 1) := n_eq _ _
      have p3 : nI (B.W (3 * w + 1)) = nI (B.W (3 * i)) ↔ B.W (3 * w + 1) = B.W (3 * i) := n_eq _ _
      have p4 : nI (B.W (3 * w + 1)) = nI (B.W (3 * i + 1)) ↔ B.W (3 * w + 1) = B.W (3 * i + 1) := n_eq _ _
      have no : smB B w i → ¬ sndB B w := fun z q => q.2 i (by omega) z
      have go : ¬ smB B w i → ax_W shC (d + 1) mX1_isWireSound (fun y u => ∃ b : Int32, y = some (ax_i b) ∧ yn b (sndB B w) ∧ u = σ) 62 [some (ax_r 2), some (ax_i (nI w)), some (ax_i (nI (B.W (3 * w)))), some (ax_i (nI (B.W (3 * w + 1)))), some (ax_i (nI i + 1)), none, none] [] σ := by
        intro z
        rw [nI_1]
        exact ih (i + 1) (by omega) hl (fun q hq e => by
          by_cases e2 : q = i
          · rw [e2] at e; exact z e
          · exact hn q (by omega) e)
      have hno : ∀ z : smB B w i, ∃ b : Int32, some (ax_i 0) = some (ax_i b) ∧ yn b (sndB B w) ∧ σ = σ := fun z => ⟨0, rfl, Or.inr ⟨rfl, no z⟩, rfl⟩
      refine s_X1_isWireSound_62 (by omega) σ _ _ _ _ (fun z => absurd z g) (fun _ => by rw [f1]; exact n_in _ _) (fun _ => by rw [f2]; exact n_in _ _) ?_ ?_ ?_ ?_ ?_ ?_ ?_
      all_goals (rw [u1, u2])
      · rw [p1, p2]; exact fun _ x y => go (fun z => z.elim (fun q => x q.1) (fun q => y q.1))
      · rw [p1, p2, p3]; exact fun _ x y t => go (fun z => z.elim (fun q => x q.1) (fun q => t q.2))
      · rw [p1, p2, p3]; exact fun _ x y t => hno (Or.inr ⟨Classical.not_not.mp y, Classical.not_not.mp t⟩)
      · rw [p1, p4]; exact fun _ x y => hno (Or.inl ⟨Classical.not_not.mp x, y⟩)
      · rw [p1, p2, p4]; exact fun _ x y t => go (fun z => z.elim (fun q => y q.2) (fun q => t q.1))
      · rw [p1, p2, p3, p4]; exact fun _ x y t e => go (fun z => z.elim (fun q => y q.2) (fun q => e q.2))
      · rw [p1, p2, p3, p4]; exact fun _ x y t e => hno (Or.inr ⟨Classical.not_not.mp t, Classical.not_not.mp e⟩)
  have hno : ∀ z : ¬ loS B w, ∃ b : Int32, some (ax_i 0) = some (ax_i b) ∧ yn b (sndB B w) ∧ σ = σ := fun z => ⟨0, rfl, Or.inr ⟨rfl, fun q => z q.1⟩, rfl⟩
  refine s_X1_isWireSound_0 (by omega) σ _ (by rw [e1]; exact n_in _ _) (by rw [e2]; exact n_in _ _) ?_ ?_ ?_ ?_ ?_ ?_ ?_ ?_
  all_goals (rw [v1])
  · rw [q1]; exact fun x => hno (fun z => absurd z.1 (by omega))
  · rw [v2, q2]; exact fun _ x => hno (fun z => absurd z.2.1 (by omega))
  · rw [v2, q3]; exact fun _ _ x => hno (fun z => z.2.2.1 x)
  · rw [v2, q1, q2, c1]; exact fun x _ _ => n_in _ _
  · rw [v2, q1, q2, q3]
    intro x y z t
    have t' := fun q => (Classical.not_not.mp t) ((r1 (by omega)).mpr q)
    exact loop w 0 (by omega) ⟨by omega, by omega, z, fun q => t' q.1⟩ (fun q hq => absurd hq (by omega))
  · rw [v2, q1, q2, c2]; exact fun _ x _ _ => n_in _ _
  · rw [v2, q1, q2, q3]
    intro x y z t s
    have s' := fun q => (Classical.not_not.mp s) ((r2 (by omega)).mpr q)
    exact loop w 0 (by omega) ⟨by omega, by omega, z, fun q => s' q.2⟩ (fun q hq => absurd hq (by omega))
  · rw [v2, q1, q2, q3]
    intro x y z t s
    exact hno (fun q => q.2.2.2 ⟨(r1 (by omega)).mp (Classical.not_not.mp t), (r2 (by omega)).mp (Classical.not_not.mp s)⟩)
theorem ct_X1_isWhole {d : Nat} (hd : 5 ≤ d) {σ : ax_S} {B : tB} (hB : bok B) (h : cBs σ B) :
    ax_Ct shC d mX1_isWhole [ax_r 2] (fun y u => ∃ b : Int32, y = some (ax_i b) ∧ yn b (whB B) ∧ u = σ) σ := by
  obtain ⟨d, rfl⟩ : ∃ e, d = e + 1 := ⟨d - 1, by omega⟩
  refine ax_Ct.of (lv := [some (ax_r 2), none]) (by decide +kernel) (fun ad => Nat.le_of_ble_eq_true rfl) (fun ad => rfl) ?_
  have hnw := hB.2.2.2.2.1
  have hnh := hB.2.2.2.1
  have g2 : (2 : Int32) ≤ σ.1 2 5 ↔ 2 ≤ B.nh := by rw [h.2.1]; exact n_le 2 B.nh
  refine s_X1_isWhole_0 (by omega) σ (fun z => ?_) (fun z => ⟨0, rfl, Or.inr ⟨rfl, fun q => z (g2.mpr q.1)⟩, rfl⟩)
  have z2 := g2.mp z
  have loop : ∀ f w, w + f = B.nw → (∀ q, q < w → sndB B q) → ax_W shC (d + 1) mX1_isWhole (fun y u => ∃ b : Int32, y = some (ax_i b) ∧ yn b (whB B) ∧ u = σ) 12 [some (ax_r 2), some (ax_i (nI w))] [] σ := by
    intro f
    induction f with
    | zero =>
      intro w hw hs
      have g : σ.1 2 6 ≤ nI w := by rw [h.2.2.1]; exact (n_le _ _).mpr (by omega)
      exact s_X1_isWhole_12 (by omega) σ _ (fun _ => ⟨1, rfl, Or.inl ⟨rfl, z2, fun q hq => hs q (by omega)⟩, rfl⟩) (fun z => absurd g z)
    | succ f ih =>
      intro w hw hs
      have g : ¬ σ.1 2 6 ≤ nI w := by rw [h.2.2.1]; exact fun z => absurd ((n_le _ _).mp z) (by omega)
      refine s_X1_isWhole_12 (by omega) σ _ (fun z => absurd z g) (fun _ => ?_)
      refine (ct_isWireSound (by omega) hB h (w := w) (by omega)).mono ?_
      rintro y u ⟨b, rfl, hb, rfl⟩
      refine ⟨b, rfl, s_X1_isWhole_25 (by omega) u _ _ (fun z => ?_) (fun z => ⟨0, rfl, Or.inr ⟨rfl, fun q => z (hb.z.mpr (q.2 w (by omega)))⟩, rfl⟩)⟩
      rw [nI_1]
      refine ih (w + 1) (by omega) (fun q hq => ?_)
      by_cases e : q = w
      · rw [e]; exact hb.z.mp z
      · exact hs q (by omega)
  exact loop B.nw 0 (by omega) (fun q hq => absurd hq (by omega))
theorem mmT : ∀ a, a < 8 → ∀ b, b < 8 → (if nI b < nI a then nI b else nI a) * (8 : Int32) + (if nI a < nI b then nI b else nI a) = nI (min a b * 8 + max a b) := by decide +kernel
theorem mmE {a b c e : Nat} (ha : a < 8) (hb : b < 8) (hc : c < 8) (he : e < 8) : min a b * 8 + max a b = min c e * 8 + max c e ↔ (a = c ∧ b = e) ∨ (a = e ∧ b = c) := by omega
theorem ct_X12_isWhole {d : Nat} (hd : 5 ≤ d) {σ : ax_S} {B : tB} (hB : bok B) (h : mBs σ B) :
    ax_Ct shM d mX12_isWhole [ax_r 0] (fun y u => ∃ b : Int32, y = some (ax_i b) ∧ yn b (whB B) ∧ u = σ) σ := by
  obtain ⟨d, rfl⟩ : ∃ e, d = e + 1 := ⟨d - 1, by omega⟩
  refine ax_Ct.of (lv := [some (ax_r 0), none, none, none, none, none]) (by decide +kernel) (fun ad => Nat.le_of_ble_eq_true rfl) (fun ad => rfl) ?_
  have hnw := hB.2.2.2.2.1
  have hnh := hB.2.2.2.1
  obtain ⟨a2, a3, a4, a5, a6⟩ := h
  have g2 : (¬ σ.1 0 20 ≤ (1 : Int32)) ↔ 2 ≤ B.nh := by
    rw [a2]
    have := n_le B.nh 1
    constructor
    · intro z; have : ¬ B.nh ≤ 1 := fun q => z (this.mpr q); omega
    · intro z q; have := this.mp q; omega
  refine s_X12_isWhole_0 (by omega) σ ?_
  have W1 : ∀ i, i < B.nw → σ.1 13 (Int32.toNatClampNeg ((3 : Int32) * nI i)) = nI (B.W (3 * i)) := fun i hi => by rw [show (3 : Int32) * nI i = nI (3 * i) from n_mul 3 i, n_tn (3 * i)]; exact a6 _ (by omega)
  have W2 : ∀ i, i < B.nw → σ.1 13 (Int32.toNatClampNeg ((3 : Int32) * nI i + 1)) = nI (B.W (3 * i + 1)) := fun i hi => by rw [show (3 : Int32) * nI i = nI (3 * i) from n_mul 3 i, nI_1, n_tn (3 * i + 1)]; exact a6 _ (by omega)
  have I1 : ∀ i, i < B.nw → vp_in ((3 : Int32) * nI i) 24 := fun i hi => by rw [show (3 : Int32) * nI i = nI (3 * i) from n_mul 3 i]; exact n_in _ _
  have I2 : ∀ i, i < B.nw → vp_in ((3 : Int32) * nI i + 1) 24 := fun i hi => by rw [show (3 : Int32) * nI i = nI (3 * i) from n_mul 3 i, nI_1]; exact n_in _ _
  have loop : ∀ f w (x1 : Int32), w + f = B.nw → yn x1 (2 ≤ B.nh ∧ ∀ q, q < w → sndB B q) → ax_W shM (d + 1) mX12_isWhole (fun y u => ∃ b : Int32, y = some (ax_i b) ∧ yn b (whB B) ∧ u = σ) 16 [some (ax_r 0), some (ax_i x1), some (ax_i (nI w)), none, none, none] [] σ := by
    intro f
    induction f with
    | zero =>
      intro w x1 hw hx
      have e : w = B.nw := by omega
      have g : σ.1 0 21 ≤ nI w := by rw [a3]; exact (n_le _ _).mpr (by omega)
      rw [e] at hx
      exact s_X12_isWhole_16 (by omega) σ _ _ (fun _ => ⟨x1, rfl, hx, rfl⟩) (fun _ => hx.b) (fun z => absurd g z) (fun z => absurd g z) (fun z => absurd g z) (fun z => absurd g z) (fun z => absurd g z)
    | succ f ih =>
      intro w x1 hw hx
      have g : ¬ σ.1 0 21 ≤ nI w := by rw [a3]; exact fun z => absurd ((n_le _ _).mp z) (by omega)
      obtain ⟨b1, b2⟩ := W_b hB (w := w) (by omega)
      have inner : ∀ f' i (x : Int32), i + f' = w → yn x ((2 ≤ B.nh ∧ ∀ q, q < w → sndB B q) ∧ loS B w ∧ ∀ q, q < i → ¬ smB B w q) → ax_W shM (d + 1) mX12_isWhole (fun y u => ∃ b : Int32, y = some (ax_i b) ∧ yn b (whB B) ∧ u = σ) 120 [some (ax_r 0), some (ax_i x), some (ax_i (nI w)), some (ax_i (nI (B.W (3 * w)))), some (ax_i (nI (B.W (3 * w + 1)))), some (ax_i (nI i))] [] σ := by
        intro f'
        induction f' with
        | zero =>
          intro i x hi hx
          have g : nI w ≤ nI i := (n_le _ _).mpr (by omega)
          refine s_X12_isWhole_120 (by omega) σ _ _ _ _ _ (fun _ => ?_) (fun z => absurd g z) (fun z => absurd g z) (fun z => absurd g z)
          rw [nI_1]
          have e : i = w := by omega
          rw [e] at hx
          refine ih (w + 1) x (by omega) ?_
          have eq : ((2 ≤ B.nh ∧ ∀ q, q < w → sndB B q) ∧ loS B w ∧ ∀ q, q < w → ¬ smB B w q) ↔ (2 ≤ B.nh ∧ ∀ q, q < w + 1 → sndB B q) := by
            constructor
            · rintro ⟨⟨s1, s2⟩, s3, s4⟩
              refine ⟨s1, fun q hq => ?_⟩
              by_cases e : q = w
              · rw [e]; exact ⟨s3, s4⟩
              · exact s2 q (by omega)
            · rintro ⟨s1, s2⟩
              exact ⟨⟨s1, fun q hq => s2 q (by omega)⟩, (s2 w (by omega)).1, (s2 w (by omega)).2⟩
          rw [propext eq] at hx; exact hx
        | succ f' ih' =>
          intro i x hi hx
          have g : ¬ nI w ≤ nI i := fun z => absurd ((n_le _ _).mp z) (by omega)
          obtain ⟨d1, d2⟩ := W_b hB (w := i) (by omega)
          refine s_X12_isWhole_120 (by omega) σ _ _ _ _ _ (fun z => absurd z g) (fun _ _ => I1 i (by omega)) (fun _ _ => I2 i (by omega)) (fun _ => ?_)
          rw [W1 i (by omega), W2 i (by omega), mmT _ (by omega) _ (by omega), mmT _ (by omega) _ (by omega), nI_1]
          refine ih' (i + 1) _ (by omega) (yn_if ?_)
          have hz := hx.z
          have he : nI (min (B.W (3 * w)) (B.W (3 * w + 1)) * 8 + max (B.W (3 * w)) (B.W (3 * w + 1))) = nI (min (B.W (3 * i)) (B.W (3 * i + 1)) * 8 + max (B.W (3 * i)) (B.W (3 * i + 1))) ↔ smB B w i := by
            refine (n_eq _ _ (by omega) (by omega)).trans ?_
            exact mmE (by omega) (by omega) (by omega) (by omega)
          constructor
          · rintro ⟨z1, z2⟩
            obtain ⟨s1, s2, s3⟩ := hz.mp z1
            refine ⟨s1, s2, fun q hq t => ?_⟩
            by_cases e : q = i
            · rw [e] at t; exact z2 (he.mpr t)
            · exact s3 q (by omega) t
          · rintro ⟨s1, s2, s3⟩
            exact ⟨hz.mpr ⟨s1, s2, fun q hq => s3 q (by omega)⟩, fun z => s3 i (by omega) (he.mp z)⟩
      have hz := hx.z
      have q1 : σ.1 0 20 ≤ nI (B.W (3 * w)) ↔ B.nh ≤ B.W (3 * w) := by rw [a2]; exact n_le _ _
      have q2 : σ.1 0 20 ≤ nI (B.W (3 * w + 1)) ↔ B.nh ≤ B.W (3 * w + 1) := by rw [a2]; exact n_le _ _
      have q3 : nI (B.W (3 * w)) = nI (B.W (3 * w + 1)) ↔ B.W (3 * w) = B.W (3 * w + 1) := n_eq _ _
      have c1 : (4 : Int32) * nI (B.W (3 * w)) + 3 = nI (4 * B.W (3 * w) + 3) := by
        rw [show (4 : Int32) * nI (B.W (3 * w)) = nI (4 * B.W (3 * w)) from n_mul 4 _]; exact n_add _ 3
      have c2 : (4 : Int32) * nI (B.W (3 * w + 1)) + 3 = nI (4 * B.W (3 * w + 1) + 3) := by
        rw [show (4 : Int32) * nI (B.W (3 * w + 1)) = nI (4 * B.W (3 * w + 1)) from n_mul 4 _]; exact n_add _ 3
      have r1 : B.W (3 * w) < B.nh → (σ.1 12 (Int32.toNatClampNeg ((4 : Int32) * nI (B.W (3 * w)) + 3)) = (2 : Int32) ↔ B.H (4 * B.W (3 * w) + 3) = 2) := by
        intro z
        rw [c1, n_tn _, a5 _ (by omega)]
        have : B.H (4 * B.W (3 * w) + 3) ≤ hiB (kF 1 + 3) := (hB.2.1 (B.W (3 * w)) z 3 (by decide)).2
        have hh : hiB (kF 1 + 3) = 3 := by decide
        exact n_eq (B.H (4 * B.W (3 * w) + 3)) 2 (by omega)
      have r2 : B.W (3 * w + 1) < B.nh → (σ.1 12 (Int32.toNatClampNeg ((4 : Int32) * nI (B.W (3 * w + 1)) + 3)) = (2 : Int32) ↔ B.H (4 * B.W (3 * w + 1) + 3) = 2) := by
        intro z
        rw [c2, n_tn _, a5 _ (by omega)]
        have : B.H (4 * B.W (3 * w + 1) + 3) ≤ hiB (kF 1 + 3) := (hB.2.1 (B.W (3 * w + 1)) z 3 (by decide)).2
        have hh : hiB (kF 1 + 3) = 3 := by decide
        exact n_eq (B.H (4 * B.W (3 * w + 1) + 3)) 2 (by omega)
      refine s_X12_isWhole_16 (by omega) σ _ _ (fun z => absurd z g) (fun z => absurd z g) (fun _ => I1 w (by omega)) (fun _ => I2 w (by omega)) ?_ ?_ ?_
      all_goals (rw [W1 w (by omega), W2 w (by omega)])
      · rintro - ⟨z1, z2, z3, z4⟩
        have := fun q => z2 (q1.mpr q)
        rw [c1]; exact n_in _ _
      · rintro - ⟨z1, z2, z3, z4⟩ -
        have := fun q => z3 (q2.mpr q)
        rw [c2]; exact n_in _ _
      · intro _
        refine inner w 0 _ (by omega) (yn_if ?_)
        constructor
        · rintro ⟨⟨z1, z2, z3, z4⟩, z5⟩
          have y2 : B.W (3 * w) < B.nh := Nat.not_le.mp (fun q => z2 (q1.mpr q))
          have y3 : B.W (3 * w + 1) < B.nh := Nat.not_le.mp (fun q => z3 (q2.mpr q))
          refine ⟨hz.mp z1, ⟨y2, y3, fun q => z4 (q3.mpr q), fun q => ?_⟩, fun q hq => absurd hq (by omega)⟩
          exact z5.elim (fun t => t ((r1 y2).mpr q.1)) (fun t => t ((r2 y3).mpr q.2))
        · rintro ⟨s1, ⟨y2, y3, y4, y5⟩, -⟩
          refine ⟨⟨hz.mpr s1, fun q => absurd (q1.mp q) (by omega), fun q => absurd (q2.mp q) (by omega), fun q => y4 (q3.mp q)⟩, ?_⟩
          by_cases e : B.H (4 * B.W (3 * w) + 3) = 2
          · exact Or.inr (fun q => y5 ⟨e, (r2 y3).mp q⟩)
          · exact Or.inl (fun q => e ((r1 y2).mp q))
  exact loop B.nw 0 _ (by omega) (yn_if ⟨fun z => ⟨g2.mp z, fun q hq => absurd hq (by omega)⟩, fun z => g2.mpr z.1⟩)
