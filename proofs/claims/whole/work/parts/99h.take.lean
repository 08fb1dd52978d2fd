/-! ===== the reference's belt, taken ===== -/
def tbF (c i : Nat) : Prop := (c = 0 ∧ (i = 23 ∨ i = 24 ∨ i = 46 ∨ i = 50 ∨ i = 37 ∨ i = 52)) ∨ c = 14 ∨ c = 15
theorem DBn_same {B : tB} {w j : Nat} (h1 : j ≠ 84) (h2 : ¬ (16 + 4 * w ≤ j ∧ j ≤ 16 + 4 * w + 3)) : DBn B (w + 1) j = DBn B w j := by
  unfold DBn
  by_cases e1 : j < B.nh
  · rw [if_pos e1, if_pos e1]
  · rw [if_neg e1, if_neg e1]
    by_cases e2 : 16 ≤ j ∧ j < 16 + 4 * w
    · rw [if_pos e2, if_pos ⟨e2.1, by omega⟩]
    · rw [if_neg e2, if_neg (by omega), if_neg h1, if_neg h1]
theorem ct_X12_takeBelt {d : Nat} (hd : 5 ≤ d) {τ : ax_S} {B : tB} (hB : bok B) (hW : whB B) (h : mBs τ B) :
    ax_Ct shM d mX12_takeBelt [ax_r 0] (fun y w => y = some (ax_i (nI B.nh)) ∧ fo tbF w τ ∧ bk_M w B.nh B.H (DBn B B.nw) (B.S 1) ∧ w.1 0 46 = 0 ∧ w.1 0 50 = 0 ∧ w.1 0 37 = 0 ∧ w.1 0 52 = 0) τ := by
  have h8 := hB.2.2.2.1
  have w8 := hB.2.2.2.2.1
  obtain ⟨a2, a3, a4, a5, a6⟩ := h
  obtain ⟨d, rfl⟩ : ∃ e, d = e + 1 := ⟨d - 1, by omega⟩
  refine ax_Ct.of (lv := [some (ax_r 0), none]) (by decide +kernel) (fun ad => Nat.le_of_ble_eq_true rfl) (fun ad => rfl) ?_
  refine s_X12_takeBelt_0 (by omega) τ ?_
  rw [a2, a4 1 (by omega)]
  have lpD : ∀ f w u, w + f = B.nw → fo tbF u τ → u.1 0 23 = nI B.nh → u.1 0 24 = nI (B.S 1) → (∀ q, q < 32 → u.1 14 q = τ.1 12 q) → mD u (DBn B w) → ax_W shM (d + 1) mX12_takeBelt (fun y w => y = some (ax_i (nI B.nh)) ∧ fo tbF w τ ∧ bk_M w B.nh B.H (DBn B B.nw) (B.S 1) ∧ w.1 0 46 = 0 ∧ w.1 0 50 = 0 ∧ w.1 0 37 = 0 ∧ w.1 0 52 = 0) 111 [some (ax_r 0), some (ax_i (nI w))] [] u := by
    intro f
    induction f with
    | zero =>
      intro w u hw hf h23 h24 h14 hD
      have e : w = B.nw := by omega
      rw [e] at hD
      have u21 : u.1 0 21 = nI B.nw := (hf.1 0 21 (by unfold tbF; omega)).trans a3
      have g : u.1 0 21 ≤ nI w := by rw [u21]; exact (n_le _ _).mpr (by omega)
      refine s_X12_takeBelt_111 (by omega) u _ (fun _ => ?_) (fun z => absurd g z) (fun z => absurd g z) (fun z => absurd g z) (fun z => absurd g z) (fun z => absurd g z) (fun z => absurd g z) (fun z => absurd g z) (fun z => absurd g z)
      have f4 : fo (fun c i => c = 0 ∧ (i = 46 ∨ i = 50 ∨ i = 37 ∨ i = 52)) (ax_ui (ax_ui (ax_ui (ax_ui u 0 46 0) 0 50 0) 0 37 0) 0 52 0) u := (((fo.rfl'.ui (by omega)).ui (by omega)).ui (by omega)).ui (by omega)
      refine ⟨by rw [h23], (f4.mono (fun c i z => by unfold tbF; omega)).trans hf, ⟨by rw [f4.1 0 23 (by omega)]; exact h23, by rw [f4.1 0 24 (by omega)]; exact h24, fun j hj => by rw [f4.1 15 j (by omega)]; exact hD j hj, fun q k hq hk => ?_⟩, ?_, ?_, ?_, ui_same _ _ _ _⟩
      · rw [f4.1 14 _ (by omega), h14 _ (by omega)]; exact a5 _ (by omega)
      · rw [ui_idx (by omega), ui_idx (by omega), ui_idx (by omega), ui_same]
      · rw [ui_idx (by omega), ui_idx (by omega), ui_same]
      · rw [ui_idx (by omega), ui_same]
    | succ f ih =>
      intro w u hw hf h23 h24 h14 hD
      have u21 : u.1 0 21 = nI B.nw := (hf.1 0 21 (by unfold tbF; omega)).trans a3
      have g : ¬ u.1 0 21 ≤ nI w := by rw [u21]; exact fun z => absurd ((n_le _ _).mp z) (by omega)
      have e0 : (3 : Int32) * nI w = nI (3 * w) := n_mul 3 w
      have e1 : (3 : Int32) * nI w + 1 = nI (3 * w + 1) := by rw [e0]; exact n_add _ 1
      have e2 : (3 : Int32) * nI w + 2 = nI (3 * w + 2) := by rw [e0]; exact n_add _ 2
      have u84 : u.1 15 84 = nI w := by rw [hD 84 (by omega), (DBn_84 hB (m := w) (by omega)).1]
      have g0 : (16 : Int32) + (4 : Int32) * u.1 15 84 + 0 = nI (16 + 4 * w) := by
        rw [u84, show (4 : Int32) * nI w = nI (4 * w) from n_mul 4 w, show (16 : Int32) + nI (4 * w) = nI (16 + 4 * w) from n_add 16 _]; exact n_add _ 0
      have g1 : (16 : Int32) + (4 : Int32) * u.1 15 84 + 1 = nI (16 + 4 * w + 1) := by
        rw [u84, show (4 : Int32) * nI w = nI (4 * w) from n_mul 4 w, show (16 : Int32) + nI (4 * w) = nI (16 + 4 * w) from n_add 16 _]; exact n_add _ 1
      have g2 : (16 : Int32) + (4 : Int32) * u.1 15 84 + 2 = nI (16 + 4 * w + 2) := by
        rw [u84, show (4 : Int32) * nI w = nI (4 * w) from n_mul 4 w, show (16 : Int32) + nI (4 * w) = nI (16 + 4 * w) from n_add 16 _]; exact n_add _ 2
      have g3 : (16 : Int32) + (4 : Int32) * u.1 15 84 + 3 = nI (16 + 4 * w + 3) := by
        rw [u84, show (4 : Int32) * nI w = nI (4 * w) from n_mul 4 w, show (16 : Int32) + nI (4 * w) = nI (16 + 4 * w) from n_add 16 _]; exact n_add _ 3
      have r13 : ∀ i, i < 3 * B.nw → u.1 13 i = nI (B.W i) := fun i hi => (hf.1 13 i (by unfold tbF; omega)).trans (a6 i hi)
      refine s_X12_takeBelt_111 (by omega) u _ (fun z => absurd z g) (fun _ => by rw [e0]; exact n_in _ _) (fun _ => by rw [e1]; exact n_in _ _) (fun _ => by rw [e2]; exact n_in _ _) (fun _ => by rw [g0]; exact n_in _ _) (fun _ => by rw [g1]; exact n_in _ _) (fun _ => by rw [g2]; exact n_in _ _) (fun _ => by rw [g3]; exact n_in _ _) (fun _ => ?_)
      rw [g0, g1, g2, g3, e1, e2, e0, u84, n_tn (16 + 4 * w), n_tn (16 + 4 * w + 1), n_tn (16 + 4 * w + 2), n_tn (16 + 4 * w + 3), n_tn (3 * w), n_tn (3 * w + 1), n_tn (3 * w + 2), r13 _ (by omega), r13 _ (by omega), r13 _ (by omega), nI_1]
      have f5 : fo (fun c i => c = 15 ∧ (i = 84 ∨ (16 + 4 * w ≤ i ∧ i ≤ 16 + 4 * w + 3))) (ax_ui (ax_ui (ax_ui (ax_ui (ax_ui u 15 84 (nI (w + 1))) 15 (16 + 4 * w) (nI (B.W (3 * w)))) 15 (16 + 4 * w + 1) (nI (B.W (3 * w + 1)))) 15 (16 + 4 * w + 2) (nI (B.W (3 * w + 2)))) 15 (16 + 4 * w + 3) 0) u := ((((fo.rfl'.ui (by omega)).ui (by omega)).ui (by omega)).ui (by omega)).ui (by omega)
      refine ih (w + 1) _ (by omega) ((f5.mono (fun c i z => by unfold tbF; omega)).trans hf) (by rw [f5.1 0 23 (by omega)]; exact h23) (by rw [f5.1 0 24 (by omega)]; exact h24) (fun q hq => by rw [f5.1 14 q (by omega)]; exact h14 q hq) (fun j hj => ?_)
      by_cases q0 : j = 84
      · rw [q0, (DBn_84 hB (m := w + 1) (by omega)).1, ui_idx (by omega), ui_idx (by omega), ui_idx (by omega), ui_idx (by omega), ui_same]
      by_cases q1 : j = 16 + 4 * w
      · rw [q1, ui_idx (by omega), ui_idx (by omega), ui_idx (by omega), ui_same]
        exact (congrArg nI (DBn_w hB (m := w + 1) (w := w) (k := 0) (by omega) (by omega))).symm
      by_cases q2 : j = 16 + 4 * w + 1
      · rw [q2, ui_idx (by omega), ui_idx (by omega), ui_same, DBn_w hB (by omega) (by omega)]
      by_cases q3 : j = 16 + 4 * w + 2
      · rw [q3, ui_idx (by omega), ui_same, DBn_w hB (by omega) (by omega)]
      by_cases q4 : j = 16 + 4 * w + 3
      · rw [q4, ui_same, DBn_c hB (by omega)]; rfl
      rw [f5.1 15 j (by omega), DBn_same q0 (by omega)]; exact hD j hj
  have lpC : ∀ f q u, q + f = B.nh → fo tbF u τ → u.1 0 23 = nI B.nh → u.1 0 24 = nI (B.S 1) → (∀ q, q < 32 → u.1 14 q = τ.1 12 q) → mD u (fun j => if j < q then B.H (4 * j + 2) else 0) → ax_W shM (d + 1) mX12_takeBelt (fun y w => y = some (ax_i (nI B.nh)) ∧ fo tbF w τ ∧ bk_M w B.nh B.H (DBn B B.nw) (B.S 1) ∧ w.1 0 46 = 0 ∧ w.1 0 50 = 0 ∧ w.1 0 37 = 0 ∧ w.1 0 52 = 0) 68 [some (ax_r 0), some (ax_i (nI q))] [] u := by
    intro f
    induction f with
    | zero =>
      intro q u hq hf h23 h24 h14 hD
      have g : u.1 0 23 ≤ nI q := by rw [h23]; exact (n_le _ _).mpr (by omega)
      have e : q = B.nh := by omega
      refine s_X12_takeBelt_68 (by omega) u _ (fun _ => ?_) (fun z => absurd g z) (fun z => absurd g z) (fun z => absurd g z)
      rw [(hf.1 11 0 (by unfold tbF; omega)).trans (a4 0 (by omega))]
      have f5 : fo (fun c i => c = 15 ∧ i = 85) (ax_ui u 15 85 (nI (B.S 0))) u := fo.rfl'.ui ⟨rfl, rfl⟩
      refine lpD B.nw 0 _ (by omega) ((f5.mono (fun c i z => by unfold tbF; omega)).trans hf) (by rw [f5.1 0 23 (by omega)]; exact h23) (by rw [f5.1 0 24 (by omega)]; exact h24) (fun q hq => by rw [f5.1 14 q (by omega)]; exact h14 q hq) (fun j hj => ?_)
      by_cases q0 : j = 85
      · rw [q0, ui_same, (DBn_84 hB (m := 0) (by omega)).2.1]
      · rw [f5.1 15 j (by omega), hD j hj]
        show nI (if j < q then B.H (4 * j + 2) else 0) = nI (DBn B 0 j)
        unfold DBn
        rw [e]
        by_cases e1 : j < B.nh
        · rw [if_pos e1, if_pos e1]
        · rw [if_neg e1, if_neg e1, if_neg (by omega)]
          by_cases e2 : j = 84
          · rw [if_pos e2]
          · rw [if_neg e2, if_neg q0]
    | succ f ih =>
      intro q u hq hf h23 h24 h14 hD
      have g : ¬ u.1 0 23 ≤ nI q := by rw [h23]; exact fun z => absurd ((n_le _ _).mp z) (by omega)
      have e2 : (4 : Int32) * nI q + 2 = nI (4 * q + 2) := by rw [show (4 : Int32) * nI q = nI (4 * q) from n_mul 4 q]; exact n_add _ 2
      have e0 : (0 : Int32) + nI q = nI q := (n_add 0 q).trans (by rw [Nat.zero_add])
      refine s_X12_takeBelt_68 (by omega) u _ (fun z => absurd z g) (fun _ => by rw [e2]; exact n_in _ _) (fun _ => by rw [e0]; exact n_in _ _) (fun _ => ?_)
      rw [e2, e0, n_tn q, n_tn (4 * q + 2), h14 _ (by omega), a5 _ (by omega), nI_1]
      have f5 : fo (fun c i => c = 15 ∧ i = q) (ax_ui u 15 q (nI (B.H (4 * q + 2)))) u := fo.rfl'.ui ⟨rfl, rfl⟩
      refine ih (q + 1) _ (by omega) ((f5.mono (fun c i z => by unfold tbF; omega)).trans hf) (by rw [f5.1 0 23 (by omega)]; exact h23) (by rw [f5.1 0 24 (by omega)]; exact h24) (fun p hp => by rw [f5.1 14 p (by omega)]; exact h14 p hp) (fun j hj => ?_)
      show _ = nI (if j < q + 1 then B.H (4 * j + 2) else 0)
      by_cases q0 : j = q
      · rw [q0, ui_same, if_pos (by omega)]
      · rw [f5.1 15 j (by omega), hD j hj]
        show nI (if j < q then B.H (4 * j + 2) else 0) = _
        by_cases e1 : j < q
        · rw [if_pos e1, if_pos (by omega)]
        · rw [if_neg e1, if_neg (by omega)]
  have lpB : ∀ f i u, i + f = 268 → fo tbF u τ → u.1 0 23 = nI B.nh → u.1 0 24 = nI (B.S 1) → (∀ q, q < 32 → u.1 14 q = τ.1 12 q) → (∀ j, j < i → u.1 15 j = 0) → ax_W shM (d + 1) mX12_takeBelt (fun y w => y = some (ax_i (nI B.nh)) ∧ fo tbF w τ ∧ bk_M w B.nh B.H (DBn B B.nw) (B.S 1) ∧ w.1 0 46 = 0 ∧ w.1 0 50 = 0 ∧ w.1 0 37 = 0 ∧ w.1 0 52 = 0) 46 [some (ax_r 0), some (ax_i (nI i))] [] u := by
    intro f
    induction f with
    | zero =>
      intro i u hi hf h23 h24 h14 hD
      have g : (268 : Int32) ≤ nI i := (n_le 268 i).mpr (by omega)
      exact s_X12_takeBelt_46 (by omega) u _ (fun _ => lpC B.nh 0 u (by omega) hf h23 h24 h14 (fun j hj => hD j (by omega))) (fun z => absurd g z) (fun z => absurd g z)
    | succ f ih =>
      intro i u hi hf h23 h24 h14 hD
      have g : ¬ (268 : Int32) ≤ nI i := fun z => absurd ((n_le 268 i).mp z) (by omega)
      refine s_X12_takeBelt_46 (by omega) u _ (fun z => absurd z g) (fun _ => n_in _ _) (fun _ => ?_)
      rw [n_tn i, nI_1]
      have f5 : fo (fun c q => c = 15 ∧ q = i) (ax_ui u 15 i 0) u := fo.rfl'.ui ⟨rfl, rfl⟩
      refine ih (i + 1) _ (by omega) ((f5.mono (fun c i z => by unfold tbF; omega)).trans hf) (by rw [f5.1 0 23 (by omega)]; exact h23) (by rw [f5.1 0 24 (by omega)]; exact h24) (fun p hp => by rw [f5.1 14 p (by omega)]; exact h14 p hp) (fun j hj => ?_)
      by_cases e : j = i
      · rw [e, ui_same]
      · rw [f5.1 15 j (by omega)]; exact hD j (by omega)
  have lpA : ∀ f i u, i + f = 32 → fo tbF u τ → u.1 0 23 = nI B.nh → u.1 0 24 = nI (B.S 1) → (∀ q, q < i → u.1 14 q = τ.1 12 q) → ax_W shM (d + 1) mX12_takeBelt (fun y w => y = some (ax_i (nI B.nh)) ∧ fo tbF w τ ∧ bk_M w B.nh B.H (DBn B B.nw) (B.S 1) ∧ w.1 0 46 = 0 ∧ w.1 0 50 = 0 ∧ w.1 0 37 = 0 ∧ w.1 0 52 = 0) 20 [some (ax_r 0), some (ax_i (nI i))] [] u := by
    intro f
    induction f with
    | zero =>
      intro i u hi hf h23 h24 h14
      have g : (32 : Int32) ≤ nI i := (n_le 32 i).mpr (by omega)
      exact s_X12_takeBelt_20 (by omega) u _ (fun _ => lpB 268 0 u (by omega) hf h23 h24 (fun q hq => h14 q (by omega)) (fun j hj => absurd hj (by omega))) (fun z => absurd g z) (fun z => absurd g z)
    | succ f ih =>
      intro i u hi hf h23 h24 h14
      have g : ¬ (32 : Int32) ≤ nI i := fun z => absurd ((n_le 32 i).mp z) (by omega)
      refine s_X12_takeBelt_20 (by omega) u _ (fun z => absurd z g) (fun _ => n_in _ _) (fun _ => ?_)
      rw [n_tn i, nI_1]
      have f5 : fo (fun c q => c = 14 ∧ q = i) (ax_ui u 14 i (u.1 12 i)) u := fo.rfl'.ui ⟨rfl, rfl⟩
      refine ih (i + 1) _ (by omega) ((f5.mono (fun c i z => by unfold tbF; omega)).trans hf) (by rw [f5.1 0 23 (by omega)]; exact h23) (by rw [f5.1 0 24 (by omega)]; exact h24) (fun p hp => ?_)
      by_cases e : p = i
      · rw [e, ui_same, hf.1 12 i (by unfold tbF; omega)]
      · rw [f5.1 14 p (by omega)]; exact h14 p (by omega)
  exact lpA 32 0 _ (by omega) ((fo.rfl'.ui (by unfold tbF; omega)).ui (by unfold tbF; omega)) (by rw [ui_idx (by omega), ui_same]) (ui_same _ _ _ _) (fun q hq => absurd hq (by omega))
