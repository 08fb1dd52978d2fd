/-! ===== COUPLES ===== -/
def pv (pt : Nat → Nat) : Nat → Nat
  | 0 => 0
  | k + 1 => 10 * pv pt k + pt k
theorem pv_cong {p q : Nat → Nat} : ∀ {k : Nat}, (∀ i, i < k → p i = q i) → pv p k = pv q k
  | 0, _ => rfl
  | k + 1, h => by rw [pv, pv, pv_cong (fun i hi => h i (by omega)), h k (by omega)]
theorem pv_lt {p : Nat → Nat} : ∀ {k : Nat}, (∀ i, i < k → p i < 10) → pv p k < 10 ^ k
  | 0, _ => by show (0 : Nat) < 1; omega
  | k + 1, h => by
    have := pv_lt (k := k) (fun i hi => h i (by omega))
    have := h k (by omega)
    rw [pv, Nat.pow_succ]; omega
def cpO (F : Nat → List (Nat × Nat)) (ok : Nat → Bool) : Nat → Nat → List (Nat × Nat)
  | 0, _ => []
  | g + 1, o => (if ok o then F o else []) ++ cpO F ok g (o + 1)
def cpl (n : Nat) (E : Nat → Nat) : Nat → Nat → (Nat → Nat) → Bool → Nat → List (Nat × Nat)
  | 0, h, pt, _, sum => [(sum, pv pt h)]
  | f + 1, h, pt, al, sum => if pt h = 9 then (if al then cpl n E f (h + 1) (dset pt h h) false sum else []) ++ cpO (fun o => cpl n E f (h + 1) (dset (dset pt h o) o h) al (sum + dst (E (4 * h)) (E (4 * o)))) (fun o => decide (pt o = 9) && !chap E h o) (n - (h + 1)) (h + 1) else cpl n E f (h + 1) pt al sum
theorem cpO_mem {F : Nat → List (Nat × Nat)} {ok : Nat → Bool} {x : Nat × Nat} : ∀ {g o : Nat}, x ∈ cpO F ok g o → ∃ p, o ≤ p ∧ p < o + g ∧ x ∈ F p
  | 0, o, h => absurd h List.not_mem_nil
  | g + 1, o, h => by
    rw [cpO, List.mem_append] at h
    rcases h with h | h
    · split at h
      · exact ⟨o, Nat.le_refl o, by omega, h⟩
      · exact absurd h List.not_mem_nil
    · obtain ⟨p, h1, h2, h3⟩ := cpO_mem h
      exact ⟨p, by omega, by omega, h3⟩
theorem cpO_pw {F : Nat → List (Nat × Nat)} {ok : Nat → Bool} : ∀ {g o : Nat}, (∀ p, o ≤ p → p < o + g → (F p).Pairwise (fun a b => a.2 < b.2)) → (∀ p q, o ≤ p → p < q → q < o + g → ∀ a ∈ F p, ∀ b ∈ F q, a.2 < b.2) → (cpO F ok g o).Pairwise (fun a b => a.2 < b.2)
  | 0, o, _, _ => List.Pairwise.nil
  | g + 1, o, h1, h2 => by
    rw [cpO, List.pairwise_append]
    refine ⟨?_, cpO_pw (fun p a b => h1 p (by omega) (by omega)) (fun p q a b c => h2 p q (by omega) b (by omega)), fun a ha b hb => ?_⟩
    · split
      · exact h1 o (Nat.le_refl o) (by omega)
      · exact List.Pairwise.nil
    · split at ha
      · obtain ⟨q, q1, q2, q3⟩ := cpO_mem hb
        exact h2 o q (Nat.le_refl o) (by omega) (by omega) a ha b q3
      · exact absurd ha List.not_mem_nil
theorem dset_lt {pt : Nat → Nat} {i v : Nat} (h : ∀ j, pt j < 10) (hv : v < 10) (j : Nat) : dset pt i v j < 10 := by
  unfold dset; split
  · exact hv
  · exact h j
theorem cpl_pre {n : Nat} {E : Nat → Nat} (hE : ∀ h, h < n → E (4 * h) ≤ 20) (hn : n ≤ 8) : ∀ (f h : Nat) (pt : Nat → Nat) (al : Bool) (sum : Nat) (x : Nat × Nat), h + f = n → (∀ i, pt i < 10) → x ∈ cpl n E f h pt al sum → x.2 / 10 ^ f = pv pt h ∧ x.2 < 10 ^ n ∧ x.1 ≤ sum + 20 * f
  | 0, h, pt, al, sum, x, hf, hp, hx => by
    rw [cpl, List.mem_singleton] at hx
    subst hx
    have e : h = n := by omega
    exact ⟨Nat.div_one _, by rw [← e]; exact pv_lt (fun i _ => hp i), Nat.le_refl _⟩
  | f + 1, h, pt, al, sum, x, hf, hp, hx => by
    have key : ∀ pt' al' sum', (∀ i, pt' i < 10) → (∀ i, i < h → pt' i = pt i) → sum' ≤ sum + 20 → x ∈ cpl n E f (h + 1) pt' al' sum' → x.2 / 10 ^ (f + 1) = pv pt h ∧ x.2 < 10 ^ n ∧ x.1 ≤ sum + 20 * (f + 1) := fun pt' al' sum' q1 q2 q3 q4 => by
      obtain ⟨r1, r2, r3⟩ := cpl_pre hE hn f (h + 1) pt' al' sum' x (by omega) q1 q4
      refine ⟨?_, r2, by omega⟩
      rw [Nat.pow_succ, ← Nat.div_div_eq_div_mul, r1, pv]
      have := q1 h
      rw [show (10 * pv pt' h + pt' h) / 10 = pv pt' h by omega]
      exact pv_cong q2
    rw [cpl] at hx
    split at hx
    · rw [List.mem_append] at hx
      rcases hx with hx | hx
      · split at hx
        · exact key _ _ _ (dset_lt hp (by omega)) (fun i hi => dset_ne (by omega)) (by omega) hx
        · exact absurd hx List.not_mem_nil
      · obtain ⟨o, o1, o2, o3⟩ := cpO_mem hx
        have e1 := hE h (by omega)
        have e2 := hE o (by omega)
        refine key _ _ _ (dset_lt (dset_lt hp (by omega)) (by omega)) (fun i hi => (dset_ne (by omega)).trans (dset_ne (by omega))) ?_ o3
        unfold dst; split <;> omega
    · exact key _ _ _ hp (fun _ _ => rfl) (by omega) hx
theorem div_sep {a b c x y : Nat} (h1 : a / c = x) (h2 : b / c = y) (h : x < y) : a < b := by
  refine Nat.not_le.mp (fun z => ?_)
  have := Nat.div_le_div_right (c := c) z
  omega
theorem cpl_pw {n : Nat} {E : Nat → Nat} (hE : ∀ h, h < n → E (4 * h) ≤ 20) (hn : n ≤ 8) : ∀ (f h : Nat) (pt : Nat → Nat) (al : Bool) (sum : Nat), h + f = n → (∀ i, pt i < 10) → (cpl n E f h pt al sum).Pairwise (fun a b => a.2 < b.2)
  | 0, h, pt, al, sum, _, _ => by rw [cpl]; exact List.pairwise_singleton _ _
  | f + 1, h, pt, al, sum, hf, hp => by
    rw [cpl]
    split
    · have pre : ∀ o, h < o → o < n → ∀ b ∈ cpl n E f (h + 1) (dset (dset pt h o) o h) al (sum + dst (E (4 * h)) (E (4 * o))), b.2 / 10 ^ f = 10 * pv pt h + o := fun o h1 h2 b hb => by
        have := (cpl_pre hE hn f (h + 1) _ _ _ b (by omega) (dset_lt (dset_lt hp (by omega)) (by omega)) hb).1
        rw [this, pv, pv_cong (q := pt) (fun i hi => (dset_ne (by omega)).trans (dset_ne (by omega))), dset_ne (by omega), dset_eq]
      rw [List.pairwise_append]
      refine ⟨?_, cpO_pw (fun o h1 h2 => cpl_pw hE hn f (h + 1) _ _ _ (by omega) (dset_lt (dset_lt hp (by omega)) (by omega))) (fun p q h1 h2 h3 a ha b hb => ?_), fun a ha b hb => ?_⟩
      · split
        · exact cpl_pw hE hn f (h + 1) _ _ _ (by omega) (dset_lt hp (by omega))
        · exact List.Pairwise.nil
      · exact div_sep (pre p (by omega) (by omega) a ha) (pre q (by omega) (by omega) b hb) (by omega)
      · split at ha
        · obtain ⟨o, o1, o2, o3⟩ := cpO_mem hb
          have := (cpl_pre hE hn f (h + 1) _ _ _ a (by omega) (dset_lt hp (by omega)) ha).1
          rw [pv, pv_cong (q := pt) (fun i hi => dset_ne (by omega)), dset_eq] at this
          exact div_sep this (pre o (by omega) (by omega) b o3) (by omega)
        · exact absurd ha List.not_mem_nil
    · exact cpl_pw hE hn f (h + 1) _ _ _ (by omega) hp
/-- the least so far: sum, row + 1; 0: none -/
def cF (s x : Nat × Nat) : Nat × Nat := if x.1 < s.1 then (x.1, x.2 + 1) else s
def rF (s x : Nat × Nat) : Nat × Nat := if s.2 = 0 ∨ x.1 < s.1 ∨ (x.1 = s.1 ∧ x.2 + 1 < s.2) then (x.1, x.2 + 1) else s
theorem cF_b {s : Nat × Nat} (h : s.1 ≤ 1000) : ∀ l : List (Nat × Nat), (l.foldl cF s).1 ≤ 1000
  | [] => h
  | x :: l => by
    rw [List.foldl_cons]
    refine cF_b ?_ l
    unfold cF; split
    · show x.1 ≤ 1000; omega
    · exact h
def cR (s t : Nat × Nat) (l : List (Nat × Nat)) : Prop := (s = (1000, 0) ∧ t = (0, 0)) ∨ (s.2 ≠ 0 ∧ s.1 < 1000 ∧ t = s ∧ ∀ x ∈ l, s.2 ≤ x.2)
theorem cF_rF : ∀ (l : List (Nat × Nat)) (s t : Nat × Nat), l.Pairwise (fun a b => a.2 < b.2) → (∀ x ∈ l, x.1 < 1000) → cR s t l → cR (l.foldl cF s) (l.foldl rF t) []
  | [], s, t, _, _, h => by
    rcases h with h | h
    · exact Or.inl h
    · exact Or.inr ⟨h.1, h.2.1, h.2.2.1, fun x hx => absurd hx List.not_mem_nil⟩
  | x :: l, s, t, hp, hb, h => by
    rw [List.pairwise_cons] at hp
    rw [List.foldl_cons, List.foldl_cons]
    refine cF_rF l _ _ hp.2 (fun y hy => hb y (List.mem_cons_of_mem _ hy)) ?_
    have hx := hb x List.mem_cons_self
    have nx : ∀ y ∈ l, x.2 + 1 ≤ y.2 := fun y hy => hp.1 y hy
    rcases h with ⟨rfl, rfl⟩ | ⟨h1, h2, rfl, h3⟩
    · right
      have e1 : cF (1000, 0) x = (x.1, x.2 + 1) := by unfold cF; rw [if_pos hx]
      have e2 : rF (0, 0) x = (x.1, x.2 + 1) := by unfold rF; rw [if_pos (Or.inl rfl)]
      rw [e1, e2]; exact ⟨by show x.2 + 1 ≠ 0; omega, hx, rfl, nx⟩
    · right
      have h4 := h3 x List.mem_cons_self
      by_cases z : x.1 < t.1
      · have e1 : cF t x = (x.1, x.2 + 1) := by unfold cF; rw [if_pos z]
        have e2 : rF t x = (x.1, x.2 + 1) := by unfold rF; rw [if_pos (Or.inr (Or.inl z))]
        rw [e1, e2]; exact ⟨by show x.2 + 1 ≠ 0; omega, hx, rfl, nx⟩
      · have e1 : cF t x = t := by unfold cF; rw [if_neg z]
        have e2 : rF t x = t := by
          unfold rF; rw [if_neg]
          rintro (q | q | q)
          · exact h1 q
          · exact z q
          · omega
        rw [e1, e2]; exact ⟨h1, h2, rfl, fun y hy => by have := nx y hy; omega⟩
/-! the class -/
def cpS (c _i : Nat) : Prop := c = 10 ∨ c = 43
theorem ct_X4_keepLeast {d : Nat} (hd : 1 ≤ d) {σ u : ax_S} {n : Nat} {E D : Nat → Nat} {dry : Nat} (hb : bk_ok n E D dry) (hC : bk_C σ n E D dry) {pt : Nat → Nat} {sum : Nat} {s : Nat × Nat} (hs : s.1 ≤ 1000) (hsum : sum ≤ 1000) (hu : fo cpS u σ) (h43 : ∀ i, i < n → u.1 43 i = nI (pt i)) (h2 : u.1 10 2 = nI s.1) (h3 : u.1 10 3 = hoI s.2) :
    ax_Ct shC d mX4_keepLeast [ax_r 10, ax_i (nI sum)] (fun r w => r = none ∧ fo cpS w σ ∧ (∀ i, w.1 43 i = u.1 43 i) ∧ w.1 10 2 = nI (cF s (sum, pv pt n)).1 ∧ w.1 10 3 = hoI (cF s (sum, pv pt n)).2) u := by
  obtain ⟨d, rfl⟩ : ∃ e, d = e + 1 := ⟨d - 1, by omega⟩
  have hn := hb.2.1
  refine ax_Ct.of (lv := [some (ax_r 10), some (ax_i (nI sum)), none]) (by decide +kernel) (fun ad => Nat.le_of_ble_eq_true rfl) (fun ad => rfl) ?_
  have key : (nI sum < u.1 10 2) ↔ sum < s.1 := by rw [h2]; exact n_lt _ _
  refine s_X4_keepLeast_0 (by omega) u _ (fun c => ?_) (fun c => ⟨rfl, hu, fun _ => rfl, ?_, ?_⟩)
  · have c2 := key.mp c
    have e : cF s (sum, pv pt n) = (sum, pv pt n + 1) := by unfold cF; rw [if_pos c2]
    rw [e]
    have loop := lp_up (m := n) (P := fun k => ∀ w, fo cpS w σ → (∀ i, w.1 43 i = u.1 43 i) → w.1 10 2 = nI sum → w.1 10 3 = nI (pv pt k) → ax_W shC (d + 1) mX4_keepLeast (fun r w => r = none ∧ fo cpS w σ ∧ (∀ i, w.1 43 i = u.1 43 i) ∧ w.1 10 2 = nI sum ∧ w.1 10 3 = hoI (pv pt n + 1)) 21 [some (ax_r 10), none, some (ax_i (nI k))] [] w) ?_ ?_
    · exact loop 0 (by omega) _ ((hu.ui (Or.inl rfl)).ui (Or.inl rfl)) (fun i => by rw [ui_cell (by omega), ui_cell (by omega)]) (by rw [ui_idx (by omega), ui_same]) (ui_same _ _ _ _)
    · intro w w1 w2 w3 w4
      have g : w.1 5 9 ≤ nI n := by rw [w1.1 5 9 (by unfold cpS; omega), hC.1]; exact (n_le _ _).mpr (Nat.le_refl _)
      exact s_X4_keepLeast_21 (by omega) w _ (fun _ => ⟨rfl, w1, w2, w3, by rw [w4]; rfl⟩) (fun c => absurd g c) (fun c => absurd g c)
    · intro k hk ih w w1 w2 w3 w4
      have g : ¬ w.1 5 9 ≤ nI k := by rw [w1.1 5 9 (by unfold cpS; omega), hC.1]; exact fun z => absurd ((n_le _ _).mp z) (by omega)
      refine s_X4_keepLeast_21 (by omega) w _ (fun c => absurd c g) (fun _ => n_in _ _) (fun _ => ?_)
      have e4 : nI (pv pt k) * (10 : Int32) + nI (pt k) = nI (pv pt (k + 1)) := by
        rw [show nI (pv pt k) * (10 : Int32) = nI (pv pt k * 10) from n_mul _ 10, n_add, pv]; congr 1; omega
      rw [n_tn k, w2, h43 k hk, w4, e4, nI_1]
      exact ih _ (w1.ui (Or.inl rfl)) (fun i => by rw [ui_cell (by omega)]; exact w2 i) (by rw [ui_idx (by omega)]; exact w3) (ui_same _ _ _ _)
  · have c2 : ¬ sum < s.1 := fun z => c (key.mpr z)
    have e : cF s (sum, pv pt n) = s := by unfold cF; rw [if_neg c2]
    rw [e]; exact h2
  · have c2 : ¬ sum < s.1 := fun z => c (key.mpr z)
    have e : cF s (sum, pv pt n) = s := by unfold cF; rw [if_neg c2]
    rw [e]; exact h3
theorem ct_X4_pairFrom {σ : ax_S} {n : Nat} {E D : Nat → Nat} {dry : Nat} (hb : bk_ok n E D dry) (hC : bk_C σ n E D dry) : ∀ (f h : Nat) (pt : Nat → Nat) (al : Bool) (sum : Nat) (tk : Int32) (s : Nat × Nat) (u : ax_S) (d : Nat), h + f = n → f + 2 ≤ d → (∀ i, i < h → pt i ≠ 9) → (∀ i, h ≤ i → i < n → bt tk i = decide (pt i ≠ 9)) → sum ≤ 20 * h → s.1 ≤ 1000 → fo cpS u σ → (∀ i, i < n → pt i ≠ 9 → u.1 43 i = nI (pt i)) → u.1 10 2 = nI s.1 → u.1 10 3 = hoI s.2 →
    ax_Ct shC d mX4_pairFrom [ax_r 10, ax_i (nI h), ax_i tk, ax_i (if al then 1 else 0), ax_i (nI sum)] (fun r w => r = none ∧ fo cpS w σ ∧ (∀ i, i < n → pt i ≠ 9 → w.1 43 i = nI (pt i)) ∧ w.1 10 2 = nI ((cpl n E f h pt al sum).foldl cF s).1 ∧ w.1 10 3 = hoI ((cpl n E f h pt al sum).foldl cF s).2) u := by
  have hn := hb.2.1
  have hE : ∀ h, h < n → E (4 * h) ≤ 20 := fun h hh => (hb.2.2.2.2.2.2.2.1 h hh).1
  intro f
  induction f with
  | zero =>
    intro h pt al sum tk s u d hf hd hp ht hsum hs hu h43 h2 h3
    obtain ⟨d, rfl⟩ : ∃ e, d = e + 1 := ⟨d - 1, by omega⟩
    refine ax_Ct.of (lv := [some (ax_r 10), some (ax_i (nI h)), some (ax_i tk), some (ax_i (if al then 1 else 0)), some (ax_i (nI sum)), none, none]) (by decide +kernel) (fun ad => Nat.le_of_ble_eq_true rfl) (fun ad => rfl) ?_
    have g : ¬ nI h < u.1 5 9 := by rw [hu.1 5 9 (by unfold cpS; omega), hC.1]; exact fun z => absurd ((n_lt _ _).mp z) (by omega)
    refine s_X4_pairFrom_0 (by omega) u _ _ _ _ (fun c => absurd c g) (fun c => absurd c g) (fun c => absurd c g) (fun c => absurd c g) (fun _ => ?_)
    refine (ct_X4_keepLeast (by omega) hb hC hs (by omega) hu (fun i hi => h43 i hi (hp i (by omega))) h2 h3).mono ?_
    rintro r w ⟨rfl, w1, w2, w3, w4⟩
    refine ⟨rfl, s_X4_pairFrom_17 (by omega) w ⟨rfl, w1, fun i hi hq => by rw [w2]; exact h43 i hi hq, ?_, ?_⟩⟩
    · rw [cpl, show h = n by omega]; exact w3
    · rw [cpl, show h = n by omega]; exact w4
  | succ f ih =>
    intro h pt al sum tk s u d hf hd hp ht hsum hs hu h43 h2 h3
    obtain ⟨d, rfl⟩ : ∃ e, d = e + 1 := ⟨d - 1, by omega⟩
    have g : nI h < u.1 5 9 := by rw [hu.1 5 9 (by unfold cpS; omega), hC.1]; exact (n_lt _ _).mpr (by omega)
    have hbit := pn_bitOf1 tk h (by omega)
    rw [ht h (Nat.le_refl h) (by omega), decide_eq_true_eq] at hbit
    refine ax_Ct.of (lv := [some (ax_r 10), some (ax_i (nI h)), some (ax_i tk), some (ax_i (if al then 1 else 0)), some (ax_i (nI sum)), none, none]) (by decide +kernel) (fun ad => Nat.le_of_ble_eq_true rfl) (fun ad => rfl) ?_
    by_cases z : pt h = 9
    · -- the partners that come later
      have loop : ∀ q o s u, o + q = n → h < o → s.1 ≤ 1000 → fo cpS u σ → (∀ i, i < n → pt i ≠ 9 → u.1 43 i = nI (pt i)) → u.1 10 2 = nI s.1 → u.1 10 3 = hoI s.2 → ∀ s', s' = (cpO (fun o => cpl n E f (h + 1) (dset (dset pt h o) o h) al (sum + dst (E (4 * h)) (E (4 * o)))) (fun o => decide (pt o = 9) && !chap E h o) q o).foldl cF s →
          ax_W shC (d + 1) mX4_pairFrom (fun r w => r = none ∧ fo cpS w σ ∧ (∀ i, i < n → pt i ≠ 9 → w.1 43 i = nI (pt i)) ∧ w.1 10 2 = nI s'.1 ∧ w.1 10 3 = hoI s'.2) 66 [some (ax_r 10), some (ax_i (nI h)), some (ax_i tk), some (ax_i (if al then 1 else 0)), some (ax_i (nI sum)), some (ax_i (nI o)), none] [] u := by
        intro q
        induction q with
        | zero =>
          intro o s u ho hho hs hu h43 h2 h3 s' hs'
          have g : u.1 5 9 ≤ nI o := by rw [hu.1 5 9 (by unfold cpS; omega), hC.1]; exact (n_le _ _).mpr (by omega)
          have e : s' = s := hs'
          subst e
          exact s_X4_pairFrom_66 (by omega) u _ _ _ _ _ (fun _ => ⟨rfl, hu, h43, h2, h3⟩) (fun c => absurd g c) (fun c => absurd g c) (fun c => absurd g c) (fun c => absurd g c) (fun c => absurd g c) (fun c => absurd g c) (fun c => absurd g c)
        | succ q ihq =>
          intro o s u ho hho hs hu h43 h2 h3 s' hs'
          have g : ¬ u.1 5 9 ≤ nI o := by rw [hu.1 5 9 (by unfold cpS; omega), hC.1]; exact fun z => absurd ((n_le _ _).mp z) (by omega)
          have hbo := pn_bitOf0 tk o (by omega)
          rw [ht o (by omega) (by omega), decide_eq_false_iff_not, Classical.not_not] at hbo
          have k26 : ∀ i, i < n → (u.1 26 (Int32.toNatClampNeg (nI i)) = (2 : Int32) ↔ E (4 * i + 3) = 2) := fun i hi => by
            have := (hb.2.2.2.2.2.2.2.1 i hi).2.2.2.1
            rw [n_tn i, hu.1 26 i (by unfold cpS; omega), (hC.2.2.2.2.2.1 i hi).2.2.1]; exact n_eq _ 2
          have hch : ((¬ (¬ (u.1 26 (Int32.toNatClampNeg (nI h))) = (2 : Int32))) ∧ (¬ (¬ (u.1 26 (Int32.toNatClampNeg (nI o))) = (2 : Int32)))) ↔ chap E h o = true := by
            rw [Classical.not_not, Classical.not_not, k26 h (by omega), k26 o (by omega)]; simp [chap]
          have skip : (decide (pt o = 9) && !chap E h o) = false → ax_W shC (d + 1) mX4_pairFrom (fun r w => r = none ∧ fo cpS w σ ∧ (∀ i, i < n → pt i ≠ 9 → w.1 43 i = nI (pt i)) ∧ w.1 10 2 = nI s'.1 ∧ w.1 10 3 = hoI s'.2) 66 [some (ax_r 10), some (ax_i (nI h)), some (ax_i tk), some (ax_i (if al then 1 else 0)), some (ax_i (nI sum)), some (ax_i (nI o + 1)), none] [] u := fun e => by
            rw [nI_1]
            refine ihq (o + 1) s u (by omega) (by omega) hs hu h43 h2 h3 s' ?_
            rw [hs', cpO, e, if_neg (by decide), List.nil_append]
          refine s_X4_pairFrom_66 (by omega) u _ _ _ _ _ (fun c => absurd c g) (fun _ => n_in _ _) (fun _ _ => n_in _ _) (fun _ c => ?_) (fun _ _ c => ?_) (fun _ _ _ => n_in _ _) (fun _ _ _ => n_in _ _) (fun _ c c2 => ?_)
          · exact skip (by rw [decide_eq_false (fun y => c (hbo.mpr y))]; rfl)
          · exact skip (by rw [hch.mp c]; exact Bool.and_false _)
          · have c9 : pt o = 9 := hbo.mp (Classical.not_not.mp c)
            have cc : chap E h o = false := by cases y : chap E h o
                                               · rfl
                                               · exact absurd (hch.mpr y) c2
            have ph := hE h (by omega)
            have po := hE o (by omega)
            have hds : dst (E (4 * h)) (E (4 * o)) ≤ 20 := by unfold dst; split <;> omega
            rw [n_tn h, n_tn o, hu.1 23 h (by unfold cpS; omega), hu.1 23 o (by unfold cpS; omega), (hC.2.2.2.2.2.1 h (by omega)).1, (hC.2.2.2.2.2.1 o (by omega)).1, dst_abs (by omega) (by omega), n_add, nI_1]
            refine (ih (h + 1) (dset (dset pt h o) o h) al (sum + dst (E (4 * h)) (E (4 * o))) (tk ||| (1 : Int32) <<< (nI o &&& 31)) s (ax_ui (ax_ui u 43 h (nI o)) 43 o (nI h)) d (by omega) (by omega) (fun i hi => ?_) (fun i hi hin => ?_) (by omega) hs ((hu.ui (Or.inr rfl)).ui (Or.inr rfl)) (fun i hi hq => ?_) (by rw [ui_cell (by omega), ui_cell (by omega)]; exact h2) (by rw [ui_cell (by omega), ui_cell (by omega)]; exact h3)).mono ?_
            · by_cases e : i = h
              · rw [e, dset_ne (by omega), dset_eq]; omega
              · rw [dset_ne (by omega), dset_ne e]; exact hp i (by omega)
            · rw [b_or, pn_one o (by omega) i (by omega), ht i (by omega) hin]
              by_cases e : i = o
              · rw [e, dset_eq, decide_eq_true (show h ≠ 9 by omega), decide_eq_true rfl, Bool.or_true]
              · rw [dset_ne e, dset_ne (by omega), decide_eq_false e, Bool.or_false]
            · by_cases e : i = o
              · rw [e, ui_same, dset_eq]
              · rw [ui_idx e, dset_ne e]
                rw [dset_ne e] at hq
                by_cases e2 : i = h
                · rw [e2, ui_same, dset_eq]
                · rw [ui_idx e2, dset_ne e2]
                  rw [dset_ne e2] at hq
                  exact h43 i hi hq
            · rintro r w ⟨rfl, w1, w2, w3, w4⟩
              refine ⟨rfl, s_X4_pairFrom_169 (by omega) w _ _ _ _ _ ?_⟩
              rw [nI_1]
              refine ihq (o + 1) _ w (by omega) (by omega) (cF_b hs _) w1 (fun i hi hq => ?_) w3 w4 s' ?_
              · have e1 : i ≠ o := fun e => hq (by rw [e]; exact c9)
                have e2 : i ≠ h := fun e => hq (by rw [e]; exact z)
                have := w2 i hi (by rw [dset_ne e1, dset_ne e2]; exact hq)
                rw [dset_ne e1, dset_ne e2] at this; exact this
              · rw [hs', cpO, c9, cc, if_pos (by decide), List.foldl_append]
      have ecp : ∀ al' : Bool, cpl n E (f + 1) h pt al' sum = (if al' then cpl n E f (h + 1) (dset pt h h) false sum else []) ++ cpO (fun o => cpl n E f (h + 1) (dset (dset pt h o) o h) al' (sum + dst (E (4 * h)) (E (4 * o)))) (fun o => decide (pt o = 9) && !chap E h o) (n - (h + 1)) (h + 1) := fun al' => by rw [cpl, if_pos z]
      cases al
      · refine s_X4_pairFrom_0 (by omega) u _ _ _ _ (fun _ _ _ => ?_) (fun _ _ c => absurd rfl c) (fun _ _ c => absurd rfl c) (fun _ c => absurd z (hbit.mp (Classical.not_not.mp c))) (fun c => absurd g c)
        rw [nI_1]
        refine loop (n - (h + 1)) (h + 1) s u (by omega) (by omega) hs hu h43 h2 h3 _ ?_
        rw [ecp false, if_neg (by decide), List.nil_append]
      · refine s_X4_pairFrom_0 (by omega) u _ _ _ _ (fun _ _ c => absurd c (by decide)) (fun _ _ _ => n_in _ _) (fun _ _ _ => ?_) (fun _ c => absurd z (hbit.mp (Classical.not_not.mp c))) (fun c => absurd g c)
        rw [n_tn h, nI_1]
        refine (ih (h + 1) (dset pt h h) false sum tk s (ax_ui u 43 h (nI h)) d (by omega) (by omega) (fun i hi => ?_) (fun i hi hin => ?_) (by omega) hs (hu.ui (Or.inr rfl)) (fun i hi hq => ?_) (by rw [ui_cell (by omega)]; exact h2) (by rw [ui_cell (by omega)]; exact h3)).mono ?_
        · by_cases e : i = h
          · rw [e, dset_eq]; omega
          · rw [dset_ne e]; exact hp i (by omega)
        · rw [dset_ne (by omega)]; exact ht i (by omega) hin
        · by_cases e : i = h
          · rw [e, ui_same, dset_eq]
          · rw [ui_idx e, dset_ne e]
            rw [dset_ne e] at hq
            exact h43 i hi hq
        · rintro r w ⟨rfl, w1, w2, w3, w4⟩
          refine ⟨rfl, s_X4_pairFrom_61 (by omega) w _ _ _ _ ?_⟩
          rw [nI_1]
          refine loop (n - (h + 1)) (h + 1) _ w (by omega) (by omega) (cF_b hs _) w1 (fun i hi hq => ?_) w3 w4 _ ?_
          · have e : i ≠ h := fun e => hq (by rw [e]; exact z)
            have := w2 i hi (by rw [dset_ne e]; exact hq)
            rw [dset_ne e] at this; exact this
          · rw [ecp true, if_pos rfl, List.foldl_append]
    · refine s_X4_pairFrom_0 (by omega) u _ _ _ _ (fun _ c => absurd (hbit.mpr z) c) (fun _ c => absurd (hbit.mpr z) c) (fun _ c => absurd (hbit.mpr z) c) (fun _ _ => ?_) (fun c => absurd g c)
      rw [nI_1]
      refine (ih (h + 1) pt al sum tk s u d (by omega) (by omega) (fun i hi => ?_) (fun i hi hin => ht i (by omega) hin) (by omega) hs hu h43 h2 h3).mono ?_
      · by_cases e : i = h
        · rw [e]; exact z
        · exact hp i (by omega)
      · rintro r w ⟨rfl, w1, w2, w3, w4⟩
        refine ⟨rfl, s_X4_pairFrom_38 (by omega) w ⟨rfl, w1, w2, ?_, ?_⟩⟩
        · rw [cpl, if_neg z]; exact w3
        · rw [cpl, if_neg z]; exact w4
