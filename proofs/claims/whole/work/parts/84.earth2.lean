/-! ===== EARTH: both ===== -/
theorem exs_mono {p : Nat → Nat → Bool} {h s n : Nat} (hs : s ≤ n) (he : exs p h s = true) : exs p h n = true := by
  cases e : exs p h n
  · have h1 := exs_f.mp e
    have : exs p h s = false := exs_f.mpr (fun i hi => h1 i (by omega))
    rw [this] at he; cases he
  · rfl
theorem set_zero {n : Nat} (hn : n ≤ 8) {p : Nat → Bool} : pn_set n p = 0 ↔ ∀ k, k < n → p k = false := by
  constructor
  · intro e k hk
    have := pn_set_bt p n (by omega) k (by omega)
    rw [e, b_0, decide_eq_true hk, Bool.true_and] at this; exact this.symm
  · intro e
    exact b_ext fun i hi => by
      rw [pn_set_bt p n (by omega) i hi, b_0]
      by_cases z : i < n
      · rw [e i z, Bool.and_false]
      · rw [decide_eq_false z]; rfl
theorem ct_X11_standingAlike {d : Nat} (hd : 13 ≤ d) {σ : ax_S} {n : Nat} {E D : Nat → Nat} {dry lw ho : Nat} {L : Nat → List (List (Nat × Nat) × List (Nat × Nat))} (hb : bk_ok n E D dry) (hC : bk_C σ n E D dry) (hlw : lwok lw ho L) (hlC : lwC σ lw ho L) (hrb : rbs ho L = false) (q : Nat → Bool) {v : Nat} (hv1 : 1 ≤ v) (hv : v ≤ 999) :
    ax_Ct shC d mX11_standingAlike [ax_r 0, ax_i (pn_set n q), ax_i (nI v)] (fun r u => r = some (ax_i (pn_set n (fun h => q h && !ew n E D dry ho L h v))) ∧ fo scr u σ) σ := by
  obtain ⟨d, rfl⟩ : ∃ e, d = e + 1 := ⟨d - 1, by omega⟩
  have hn := hb.2.1
  have h84 := hb.2.2.2.1
  have hkp := kpf_le E D dry ho L
  have hok := st_ok hb hkp
  have hK := skK_of hlw (st_H hb hC) hlC hn
  generalize hR : rem n D (kpf E D dry ho L) v = R
  have hRe : ∀ s h, R s h = (decide (¬ dk_bu n D (kpf E D dry ho L) s v = 0) && (decide (¬ dk_bu n D (kpf E D dry ho L) s v = (1 : Int32) <<< (nI h &&& 31)) || decide (min 99 (D h + 10) < (dk_run D (kpf E D dry ho L) s v).1 h))) := fun s h => by rw [← hR]; rfl
  have hew : ∀ h, h < n → exs R h n = ew n E D dry ho L h v := fun h hh => by
    have e1 : exs R h n = false ↔ ew n E D dry ho L h v = false := by
      unfold ew wkq
      rw [exs_f, decide_eq_false_iff_not, Classical.not_not, kpf_nb (D := D) (D' := eD D h) hrb]
      unfold weak
      rw [wkA_m1 (by omega)]
      constructor
      · intro z i _ hi
        rw [← rem_eq hb _ hh, hR]; exact z i (by omega)
      · intro z s hs
        rw [← hR, rem_eq hb _ hh]; exact z s (by omega) (by omega)
    cases y : ew n E D dry ho L h v
    · exact e1.mpr y
    · cases y2 : exs R h n
      · rw [e1.mp y2] at y; cases y
      · rfl
  have efin : pn_set n (fun h => q h && !ew n E D dry ho L h v) = pn_set n (fun h => q h && !exs R h n) := pn_set_cong (fun h hh => by rw [hew h hh])
  rw [efin]
  refine ax_Ct.of (lv := [some (ax_r 0), some (ax_i (pn_set n q)), some (ax_i (nI v)), none, none, none, none, none]) (by decide +kernel) (fun ad => Nat.le_of_ble_eq_true rfl) (fun ad => rfl) ?_
  refine s_X11_standingAlike_0 (by omega) σ _ _ ?_
  refine (ct_live (by omega) hb hC).mono ?_
  rintro r u ⟨rfl, rfl⟩
  refine ⟨_, rfl, s_X11_standingAlike_7 (by omega) u _ _ _ ?_⟩
  have loop := lp_up (m := n) (P := fun s => ∀ t, fo scr t u → ax_W shC (d + 1) mX11_standingAlike (fun r w => r = some (ax_i (pn_set n (fun h => q h && !exs R h n))) ∧ fo scr w u) 14 [some (ax_r 0), none, some (ax_i (nI v)), some (ax_i (pn_set (D 84) (bk_lv D))), some (ax_i (pn_set n (fun h => q h && !exs R h s))), some (ax_i (nI s)), none, none] [] t) ?_ ?_
  · have := loop 0 (by omega) u fo.rfl'
    have e : pn_set n (fun h => q h && !exs R h 0) = pn_set n q := pn_set_cong (fun i _ => by rw [exs]; simp)
    rw [e] at this; exact this
  · intro t ht
    have e9 : t.1 5 9 = nI n := by rw [ht.1 5 9 (by unfold scr; omega)]; exact hC.1
    have g : t.1 5 9 ≤ nI n := by rw [e9]; exact (n_le _ _).mpr (Nat.le_refl _)
    exact s_X11_standingAlike_14 (by omega) t _ _ _ _ (fun _ => ⟨rfl, ht⟩) (fun c => absurd g c) (fun c => absurd g c)
  · intro s hs ih t ht
    have e9 : t.1 5 9 = nI n := by rw [ht.1 5 9 (by unfold scr; omega)]; exact hC.1
    have g : ¬ t.1 5 9 ≤ nI s := by rw [e9]; exact fun z => absurd ((n_le _ _).mp z) (by omega)
    refine s_X11_standingAlike_14 (by omega) t _ _ _ _ (fun c => absurd c g) (fun _ c => ⟨?_, ht⟩) (fun _ c => ?_)
    · rw [pn_set_cong (p := fun h => q h && !exs R h s) (q := fun h => q h && !exs R h n) (fun h hh => ?_)]
      have := (set_zero hn).mp c h hh
      cases y : q h
      · rfl
      · rw [y, Bool.true_and] at this
        cases y2 : exs R h s
        · rw [y2] at this; cases this
        · rw [exs_mono (Nat.le_of_lt hs) y2]
    · refine (fl_C (by omega) hok (st_C hb hC) hK ht hs hv1 hv).mono ?_
      rintro r w ⟨rfl, w1, w2, -⟩
      have wC : bk_C w n E D dry := hC.to w1.1 (fun c i h => by unfold scr at h; omega)
      refine ⟨_, rfl, s_X11_standingAlike_42 (by omega) w _ _ _ _ _ ?_⟩
      have inner := lp_up (m := n) (P := fun k => ax_W shC (d + 1) mX11_standingAlike (fun r w => r = some (ax_i (pn_set n (fun h => q h && !exs R h n))) ∧ fo scr w u) 47 [some (ax_r 0), none, some (ax_i (nI v)), some (ax_i (pn_set (D 84) (bk_lv D))), some (ax_i (pn_set n (fun h => q h && !(exs R h s || (decide (h < k) && R s h))))), some (ax_i (nI s)), some (ax_i (dk_bu n D (kpf E D dry ho L) s v)), some (ax_i (nI k))] [] w) ?_ ?_
      · have := inner 0 (by omega)
        have e : pn_set n (fun h => q h && !(exs R h s || (decide (h < 0) && R s h))) = pn_set n (fun h => q h && !exs R h s) := pn_set_cong (fun i _ => by simp)
        rw [e] at this; exact this
      · have g : w.1 5 9 ≤ nI n := by rw [wC.1]; exact (n_le _ _).mpr (Nat.le_refl _)
        refine s_X11_standingAlike_47 (by omega) w _ _ _ _ _ _ (fun _ => ?_) (fun c => absurd g c) (fun c => absurd g c) (fun c => absurd g c) (fun c => absurd g c) (fun c => absurd g c)
        rw [nI_1]
        have := ih w w1
        have e : pn_set n (fun h => q h && !(exs R h s || (decide (h < n) && R s h))) = pn_set n (fun h => q h && !exs R h (s + 1)) := pn_set_cong (fun i hi => by simp only [decide_eq_true hi, Bool.true_and]; rfl)
        rw [e]; exact this
      · intro k hk ih2
        have g : ¬ w.1 5 9 ≤ nI k := by rw [wC.1]; exact fun z => absurd ((n_le _ _).mp z) (by omega)
        have hDk := (hb.2.2.2.2.2.2.2.1 k hk).2.2.2.2.2.1
        have e25 : w.1 25 (Int32.toNatClampNeg (nI k)) = nI (D k) := by rw [n_tn k]; exact (wC.2.2.2.2.2.1 k hk).2.2.2.1
        have e32 : w.1 32 (Int32.toNatClampNeg (nI k)) = nI ((dk_run D (kpf E D dry ho L) s v).1 k) := by rw [n_tn k]; exact w2 k (by omega)
        have hrk := dk_run_k hok hs hv1 hk
        have kle : (w.1 32 (Int32.toNatClampNeg (nI k)) ≤ (if ((w.1 25 (Int32.toNatClampNeg (nI k))) + (10 : Int32)) < (99 : Int32) then ((w.1 25 (Int32.toNatClampNeg (nI k))) + (10 : Int32)) else (99 : Int32))) ↔ (dk_run D (kpf E D dry ho L) s v).1 k ≤ min 99 (D k + 10) := by
          rw [e25, e32, n_earth hDk]; exact n_le _ _
        have keep : R s k = false → ax_W shC (d + 1) mX11_standingAlike (fun r w => r = some (ax_i (pn_set n (fun h => q h && !exs R h n))) ∧ fo scr w u) 47 [some (ax_r 0), none, some (ax_i (nI v)), some (ax_i (pn_set (D 84) (bk_lv D))), some (ax_i (pn_set n (fun h => q h && !(exs R h s || (decide (h < k) && R s h))))), some (ax_i (nI s)), some (ax_i (dk_bu n D (kpf E D dry ho L) s v)), some (ax_i (nI k + 1))] [] w := fun z => by
          rw [nI_1]
          have e : pn_set n (fun h => q h && !(exs R h s || (decide (h < k + 1) && R s h))) = pn_set n (fun h => q h && !(exs R h s || (decide (h < k) && R s h))) := pn_set_cong (fun i _ => by
            by_cases y : i = k
            · rw [y, z, Bool.and_false, Bool.and_false]
            · have : (i < k + 1) ↔ i < k := by omega
              simp only [this])
          rw [e] at ih2; exact ih2
        have drop : R s k = true → ax_W shC (d + 1) mX11_standingAlike (fun r w => r = some (ax_i (pn_set n (fun h => q h && !exs R h n))) ∧ fo scr w u) 47 [some (ax_r 0), none, some (ax_i (nI v)), some (ax_i (pn_set (D 84) (bk_lv D))), some (ax_i (pn_set n (fun h => q h && !(exs R h s || (decide (h < k) && R s h))) &&& (((1 : Int32) <<< (nI k &&& 31)) ^^^ (-1)))), some (ax_i (nI s)), some (ax_i (dk_bu n D (kpf E D dry ho L) s v)), some (ax_i (nI k + 1))] [] w := fun z => by
          rw [nI_1]
          have e : pn_set n (fun h => q h && !(exs R h s || (decide (h < k) && R s h))) &&& (((1 : Int32) <<< (nI k &&& 31)) ^^^ (-1)) = pn_set n (fun h => q h && !(exs R h s || (decide (h < k + 1) && R s h))) := b_ext fun i hi => by
            rw [b_and, pn_not _ i hi, pn_one k (by omega) i hi, pn_set_bt _ n (by omega) i hi, pn_set_bt _ n (by omega) i hi]
            by_cases y : i = k
            · rw [y, z]; simp
            · have : (i < k + 1) ↔ i < k := by omega
              simp only [this, decide_eq_false y, Bool.not_false, Bool.and_true]
          rw [e]; exact ih2
        refine s_X11_standingAlike_47 (by omega) w _ _ _ _ _ _ (fun c => absurd c g) (fun _ c => ?_) (fun _ c c2 => drop ?_) (fun _ _ _ => n_in _ _) (fun _ c c2 c3 => keep ?_) (fun _ c c2 c3 => drop ?_)
        · rw [nI_1]
          have := ih w w1
          have hRz : ∀ h, R s h = false := fun h => by rw [hRe, decide_eq_false (not_not_intro c)]; rfl
          have e : pn_set n (fun h => q h && !(exs R h s || (decide (h < k) && R s h))) = pn_set n (fun h => q h && !exs R h (s + 1)) := pn_set_cong (fun i _ => by rw [exs, hRz i, Bool.and_false])
          rw [e]; exact this
        · rw [hRe, decide_eq_true c, decide_eq_true c2]; rfl
        · have c4 := kle.mp c3
          rw [hRe, decide_eq_false c2, decide_eq_false (show ¬ min 99 (D k + 10) < (dk_run D (kpf E D dry ho L) s v).1 k by omega)]
          exact Bool.and_false _
        · have c4 : ¬ (dk_run D (kpf E D dry ho L) s v).1 k ≤ min 99 (D k + 10) := fun z => c3 (kle.mpr z)
          rw [hRe, decide_eq_true c, decide_eq_true (show min 99 (D k + 10) < (dk_run D (kpf E D dry ho L) s v).1 k by omega), Bool.or_true]; rfl
theorem ct_X11_lowest {d : Nat} (hd : 2 ≤ d) {σ : ax_S} {n : Nat} (hn : n ≤ 8) (h9 : σ.1 5 9 = nI n) (q : Nat → Bool) :
    ax_Ct shC d mX11_lowest [ax_r 0, ax_i (pn_set n q)] (fun r u => r = some (ax_i (wkA q n 0)) ∧ u = σ) σ := by
  obtain ⟨d, rfl⟩ : ∃ e, d = e + 1 := ⟨d - 1, by omega⟩
  refine ax_Ct.of (lv := [some (ax_r 0), some (ax_i (pn_set n q)), none]) (by decide +kernel) (fun ad => Nat.le_of_ble_eq_true rfl) (fun ad => rfl) ?_
  refine s_X11_lowest_0 (by omega) σ _ ?_
  have loop : ∀ f k, k + f = n → ax_W shC (d + 1) mX11_lowest (fun r u => r = some (ax_i (wkA q f k)) ∧ u = σ) 2 [some (ax_r 0), some (ax_i (pn_set n q)), some (ax_i (nI k))] [] σ := by
    intro f
    induction f with
    | zero =>
      intro k hk
      have g : σ.1 5 9 ≤ nI k := by rw [h9]; exact (n_le _ _).mpr (by omega)
      exact s_X11_lowest_2 (by omega) σ _ _ (fun _ => ⟨rfl, rfl⟩) (fun c => absurd g c) (fun c => absurd g c)
    | succ f ih =>
      intro k hk
      have g : ¬ σ.1 5 9 ≤ nI k := by rw [h9]; exact fun z => absurd ((n_le _ _).mp z) (by omega)
      have hbit := set_bit (f := q) hn (show k < n by omega)
      refine s_X11_lowest_2 (by omega) σ _ _ (fun c => absurd c g) (fun _ c => ?_) (fun _ c => ⟨?_, rfl⟩)
      · rw [nI_1, wkA, if_neg (fun z => c (hbit.mpr z))]
        exact ih (k + 1) (by omega)
      · rw [wkA, if_pos (hbit.mp (Classical.not_not.mp c))]
  exact loop n 0 (by omega)
/-! who is left last is the first of the greatest -/
def erL (n : Nat) (W : Nat → Nat → Bool) : Nat → Nat → (Nat → Bool) → Int32
  | 0, _, q => wkA q n 0
  | f + 1, v, q => if pn_set n (fun h => q h && !W h (v + 1)) = 0 then wkA q n 0 else erL n W f (v + 1) (fun h => q h && !W h (v + 1))
theorem wkA_first {q : Nat → Bool} : ∀ f k, (∃ h, k ≤ h ∧ h < k + f ∧ q h = true) → ∃ h, k ≤ h ∧ h < k + f ∧ q h = true ∧ (∀ i, k ≤ i → i < h → q i = false) ∧ wkA q f k = nI h
  | 0, k, ⟨h, h1, h2, _⟩ => absurd h1 (by omega)
  | f + 1, k, ⟨h, h1, h2, h3⟩ => by
    cases e : q k
    · obtain ⟨i, i1, i2, i3, i4, i5⟩ := wkA_first (q := q) f (k + 1) ⟨h, by
        by_cases z : h = k
        · rw [z, e] at h3; cases h3
        · omega, by omega, h3⟩
      refine ⟨i, by omega, by omega, i3, fun j j1 j2 => ?_, ?_⟩
      · by_cases z : j = k
        · rw [z]; exact e
        · exact i4 j (by omega) j2
      · rw [wkA, if_neg (by rw [e]; decide)]; exact i5
    · exact ⟨k, Nat.le_refl k, by omega, e, fun j j1 j2 => absurd j1 (by omega), by rw [wkA, if_pos e]⟩
theorem erL_am {n : Nat} (hn : n ≤ 8) {W : Nat → Nat → Bool} : ∀ (f v : Nat) (q : Nat → Bool), (∃ h, h < n ∧ q h = true) → ∃ h0, h0 < n ∧ q h0 = true ∧ erL n W f v q = nI h0 ∧ (∀ h, h < n → q h = true → sdA (W h) f v ≤ sdA (W h0) f v) ∧ (∀ h, h < h0 → q h = true → sdA (W h) f v < sdA (W h0) f v)
  | 0, v, q, ⟨h, h1, h2⟩ => by
    obtain ⟨i, i1, i2, i3, i4, i5⟩ := wkA_first (q := q) n 0 ⟨h, by omega, by omega, h2⟩
    exact ⟨i, by omega, i3, i5, fun _ _ _ => Nat.le_refl _, fun j j1 j2 => by rw [i4 j (by omega) j1] at j2; cases j2⟩
  | f + 1, v, q, ⟨h, h1, h2⟩ => by
    rw [erL]
    by_cases z : pn_set n (fun h => q h && !W h (v + 1)) = 0
    · rw [if_pos z]
      have hW : ∀ h, h < n → q h = true → sdA (W h) (f + 1) v = v := fun h hh hq => by
        have := (set_zero hn).mp z h hh
        rw [hq, Bool.true_and, Bool.not_eq_false'] at this
        rw [sdA, if_pos this]
      obtain ⟨i, i1, i2, i3, i4, i5⟩ := wkA_first (q := q) n 0 ⟨h, by omega, by omega, h2⟩
      refine ⟨i, by omega, i3, i5, fun j j1 j2 => ?_, fun j j1 j2 => by rw [i4 j (by omega) j1] at j2; cases j2⟩
      rw [hW j j1 j2, hW i (by omega) i3]; exact Nat.le_refl _
    · rw [if_neg z]
      have hex : ∃ h, h < n ∧ (q h && !W h (v + 1)) = true := Classical.byContradiction (fun y => z ((set_zero hn).mpr (fun k hk => by
        cases e : (q k && !W k (v + 1))
        · rfl
        · exact absurd ⟨k, hk, e⟩ y)))
      obtain ⟨h0, a1, a2, a3, a4, a5⟩ := erL_am hn f (v + 1) (fun h => q h && !W h (v + 1)) hex
      rw [Bool.and_eq_true, Bool.not_eq_true'] at a2
      have e0 : sdA (W h0) (f + 1) v = sdA (W h0) f (v + 1) := by rw [sdA, if_neg (by rw [a2.2]; decide)]
      have hb0 := (sdA_b (q := W h0) (f := f) (v := v + 1)).1
      have key : ∀ j, q j = true → (W j (v + 1) = true ∧ sdA (W j) (f + 1) v = v) ∨ ((q j && !W j (v + 1)) = true ∧ sdA (W j) (f + 1) v = sdA (W j) f (v + 1)) := fun j hq => by
        cases e : W j (v + 1)
        · right; exact ⟨by rw [hq]; rfl, by rw [sdA, if_neg (by rw [e]; decide)]⟩
        · left; exact ⟨rfl, by rw [sdA, if_pos e]⟩
      refine ⟨h0, a1, a2.1, a3, fun j j1 j2 => ?_, fun j j1 j2 => ?_⟩
      · rw [e0]
        rcases key j j2 with ⟨-, k2⟩ | ⟨k1, k2⟩
        · rw [k2]; omega
        · rw [k2]; exact a4 j j1 k1
      · rw [e0]
        rcases key j j2 with ⟨-, k2⟩ | ⟨k1, k2⟩
        · rw [k2]; omega
        · rw [k2]; exact a5 j j1 k1
theorem mxi_am (f : Nat → Nat) : ∀ n, 0 < n → (∀ h, h < n → f h ≤ f (mxi f n)) ∧ (∀ h, h < mxi f n → f h < f (mxi f n))
  | 0, h => absurd h (by omega)
  | n + 1, _ => by
    by_cases h0 : n = 0
    · subst h0
      have e : mxi f 1 = 0 := by rw [mxi, mxi, if_neg (by omega)]
      rw [e]
      exact ⟨fun h hh => by rw [show h = 0 by omega]; exact Nat.le_refl _, fun h hh => absurd hh (by omega)⟩
    · obtain ⟨h1, h2⟩ := mxi_am f n (by omega)
      rw [mxi]
      by_cases z : f (mxi f n) < f n
      · rw [if_pos z]
        refine ⟨fun h hh => ?_, fun h hh => ?_⟩
        · by_cases e : h = n
          · rw [e]; exact Nat.le_refl _
          · have := h1 h (by omega); omega
        · have := h1 h (by omega); omega
      · rw [if_neg z]
        refine ⟨fun h hh => ?_, h2⟩
        by_cases e : h = n
        · rw [e]; omega
        · exact h1 h (by omega)
theorem stan_m {n : Nat} {D : Nat → Nat} {kp : Nat → Nat → Nat → Nat} (hok : dk_ok n D kp) {m : Nat} (hm : m ≤ 99) (hD : ∀ k, k < n → m ≤ D k) : stan n D kp = sdA (wkq n D kp) (999 - m) m := by
  unfold stan
  have e : (999 : Nat) = m + (999 - m) := by omega
  have := sdA_skip (q := wkq n D kp) (m := m) (f := 999 - m) (v := 0) (fun i h1 h2 => weak_small hok (by omega) (fun k hk => by have := hD k hk; omega))
  rw [← e, Nat.zero_add] at this
  exact this
theorem good_earth {j : Nat} {σ τ : ax_S} (h : RR j σ τ) : good j mX11_earth mX12_earth [] σ τ := by
  obtain ⟨n, E, D, dry, lw, ho, L, nc, no, hb, hlg, hlw, hnt, hC, hM, hlC, hlM, hnC, hnM, hnext⟩ := h.sets
  have hn := hb.2.1
  have hm := mnb_le D n
  have hDb : ∀ k, k < n → D k ≤ 99 := fun k hk => (hb.2.2.2.2.2.2.2.1 k hk).2.2.2.2.2.1
  have hst : ∀ h, h < n → stan n (eD D h) (kpf E (eD D h) dry ho L) = sdA (ew n E D dry ho L h) (999 - mnb D n) (mnb D n) := fun h hh =>
    stan_m (st_ok (eD_ok hb hh) (kpf_le E (eD D h) dry ho L)) hm.1 (fun k hk => Nat.le_trans (hm.2 k hk) (eD_ge (hDb k hk)))
  refine ⟨erL n (ew n E D dry ho L) (999 - mnb D n) (mnb D n) (fun _ => true), fun u => fo scC u σ, fun w => KS τ D w, ?_, ?_, hnext⟩
  · refine ax_Ct.of (lv := [some (ax_r 0), none, none, none]) (by decide +kernel) (fun ad => Nat.le_of_ble_eq_true rfl) (fun ad => rfl) ?_
    refine s_X11_earth_0 (d := 59) (by omega) σ ?_
    refine (ct_X0_leastBorne (by omega) hb hC).mono ?_
    rintro r u ⟨rfl, rfl⟩
    refine ⟨_, rfl, s_X11_earth_19 (by omega) u _ _ ?_⟩
    have eall : ((1 : Int32) <<< (u.1 5 9 &&& 31)) - 1 = pn_set n (fun _ => true) := b_ext fun i hi => by
      rw [hC.1, pn_full n (by omega) i hi, pn_set_bt _ n (by omega) i hi, Bool.and_true]
    rw [eall, nI_1]
    have low : ∀ q t, fo scr t u → ∀ x, x = wkA q n 0 → ax_Ct shC 59 mX11_lowest [ax_r 0, ax_i (pn_set n q)] (fun r w => ∃ y : Int32, r = some (ax_i y) ∧ ax_W shC (59 + 1) mX11_earth (fun r t => r = some (ax_i x) ∧ fo scC t u) 79 [none, none, none, none] (ax_i y :: []) w) t := fun q t ht x hx => by
      refine (ct_X11_lowest (by omega) hn (by rw [ht.1 5 9 (by unfold scr; omega)]; exact hC.1) q).mono ?_
      rintro r w ⟨rfl, rfl⟩
      exact ⟨_, rfl, s_X11_earth_79 (by omega) w _ ⟨by rw [hx], ht.mono scr_scC⟩⟩
    have loop : ∀ f v q t, v + f = 999 → fo scr t u → ax_W shC (59 + 1) mX11_earth (fun r t => r = some (ax_i (erL n (ew n E D dry ho L) f v q)) ∧ fo scC t u) 22 [some (ax_r 0), some (ax_i (pn_set n q)), some (ax_i (nI (v + 1))), none] [] t := by
      intro f
      induction f with
      | zero =>
        intro v q t hv ht
        refine s_X11_earth_22 (by omega) t _ _ (fun _ => low q t ht _ rfl) (fun c => absurd ((n_lt 999 (v + 1)).mpr (by omega)) c) (fun c => absurd ((n_lt 999 (v + 1)).mpr (by omega)) c)
      | succ f ih =>
        intro v q t hv ht
        have tC : bk_C t n E D dry := hC.to ht.1 (fun c i h => by unfold scr at h; omega)
        have tlw : lwC t lw ho L := hlC.to ht.1 (fun c i hs => by unfold scr at hs; omega)
        have go : ∀ w, fo scr w t → ∀ (Q : Int32 → Prop), True → (¬ pn_set n (fun h => q h && !ew n E D dry ho L h (v + 1)) = 0 → ax_W shC (59 + 1) mX11_earth (fun r t => r = some (ax_i (erL n (ew n E D dry ho L) (f + 1) v q)) ∧ fo scC t u) 22 [some (ax_r 0), some (ax_i (pn_set n (fun h => q h && !ew n E D dry ho L h (v + 1)))), some (ax_i (nI (v + 1) + 1)), none] [] w) := fun w hw _ _ z => by
          rw [nI_1, erL, if_neg z]
          exact ih (v + 1) _ w (by omega) (hw.trans ht)
        refine s_X11_earth_22 (by omega) t _ _ (fun c => absurd ((n_lt 999 (v + 1)).mp c) (by omega)) (fun _ c => low q t ht _ ?_) (fun _ c => ?_)
        · rw [erL, if_pos ((set_zero hn).mpr (fun k hk => by rw [(set_zero hn).mp c k hk]; rfl))]
        · refine (ct_X7_readBears (by omega) hlw tlw).mono ?_
          rintro r t2 ⟨rfl, rfl⟩
          refine ⟨_, rfl, ?_⟩
          cases hrb : rbs ho L
          · refine s_X11_earth_40 (by omega) t2 _ _ _ (fun _ => ?_) (fun c => absurd rfl c)
            refine (ct_X11_standingAlike (by omega) hb tC hlw tlw hrb q (show 1 ≤ v + 1 by omega) (show v + 1 ≤ 999 by omega)).mono ?_
            rintro r w ⟨rfl, w1⟩
            refine ⟨_, rfl, s_X11_earth_58 (by omega) w _ _ _ (fun c => go w w1 (fun _ => True) trivial c) (fun c => low q w (w1.trans ht) _ ?_)⟩
            rw [erL, if_pos (Classical.not_not.mp c)]
          · refine s_X11_earth_40 (by omega) t2 _ _ _ (fun c => absurd c (by decide)) (fun _ => ?_)
            refine (ct_X11_standingAfresh (by omega) hb tC hlw tlw q (show 1 ≤ v + 1 by omega) (show v + 1 ≤ 999 by omega)).mono ?_
            rintro r w ⟨rfl, w1⟩
            refine ⟨_, rfl, s_X11_earth_49 (by omega) w _ _ _ (fun c => go w w1 (fun _ => True) trivial c) (fun c => low q w (w1.trans ht) _ ?_)⟩
            rw [erL, if_pos (Classical.not_not.mp c)]
    exact loop (999 - mnb D n) (mnb D n) _ u (by have := hm.1; omega) fo.rfl'
  · let st := fun h => stan n (eD D h) (kpf E (eD D h) dry ho L)
    have hst9 : ∀ h, st h ≤ 999 := fun h => stan_le _ _ _
    have efin : 0 < n → erL n (ew n E D dry ho L) (999 - mnb D n) (mnb D n) (fun _ => true) = nI (mxi st n) := fun h0 => by
      obtain ⟨h1, b1, -, b3, b4, b5⟩ := erL_am hn (W := ew n E D dry ho L) (999 - mnb D n) (mnb D n) (fun _ => true) ⟨0, h0, rfl⟩
      rw [b3]
      congr 1
      obtain ⟨m1, m2⟩ := mxi_am st n h0
      have m3 := mxi_lt st n h0
      have s1 : ∀ h, h < n → st h = sdA (ew n E D dry ho L h) (999 - mnb D n) (mnb D n) := hst
      rcases Nat.lt_trichotomy h1 (mxi st n) with y | y | y
      · have y1 := m2 h1 y
        have y2 := b4 (mxi st n) m3 rfl
        rw [← s1 h1 b1, ← s1 _ m3] at y2; omega
      · exact y
      · have y1 := b5 (mxi st n) y rfl
        have y2 := m1 h1 b1
        rw [← s1 h1 b1, ← s1 _ m3] at y1; omega
    refine ax_Ct.of (lv := [some (ax_r 0), none, none, none, none, none]) (by decide +kernel) (fun ad => Nat.le_of_ble_eq_true rfl) (fun ad => rfl) ?_
    refine s_X12_earth_0 (d := 59) (by omega) τ ?_
    have step : ∀ k, k < n → ∀ u, KS τ D u → ∀ x1 x2 : Int32, (∀ w, KS τ D w → (x1 = -1 → ax_W shM (59 + 1) mX12_earth (fun r t => r = some (ax_i (erL n (ew n E D dry ho L) (999 - mnb D n) (mnb D n) (fun _ => true))) ∧ KS τ D t) 6 [some (ax_r 0), some (ax_i (nI k)), some (ax_i (nI (st k))), some (ax_i (nI (k + 1))), none, none] [] w) ∧ (¬ x1 = -1 → nI (st k) ≤ x2 → ax_W shM (59 + 1) mX12_earth (fun r t => r = some (ax_i (erL n (ew n E D dry ho L) (999 - mnb D n) (mnb D n) (fun _ => true))) ∧ KS τ D t) 6 [some (ax_r 0), some (ax_i x1), some (ax_i x2), some (ax_i (nI (k + 1))), none, none] [] w) ∧ (¬ x1 = -1 → ¬ nI (st k) ≤ x2 → ax_W shM (59 + 1) mX12_earth (fun r t => r = some (ax_i (erL n (ew n E D dry ho L) (999 - mnb D n) (mnb D n) (fun _ => true))) ∧ KS τ D t) 6 [some (ax_r 0), some (ax_i (nI k)), some (ax_i (nI (st k))), some (ax_i (nI (k + 1))), none, none] [] w)) → ax_W shM (59 + 1) mX12_earth (fun r t => r = some (ax_i (erL n (ew n E D dry ho L) (999 - mnb D n) (mnb D n) (fun _ => true))) ∧ KS τ D t) 6 [some (ax_r 0), some (ax_i x1), some (ax_i x2), some (ax_i (nI k)), none, none] [] u := by
      intro k hk u hu x1 x2 K
      have e23 := hu.h23 hM.1
      have g : ¬ u.1 0 23 ≤ nI k := by rw [e23]; exact fun z => absurd ((n_le _ _).mp z) (by omega)
      have i0 : (0 : Int32) + nI k = nI k := n_0 k
      have e15 : u.1 15 (Int32.toNatClampNeg ((0 : Int32) + nI k)) = nI (D k) := by rw [i0, n_tn k]; exact hu.2 k (by omega)
      have t15 : Int32.toNatClampNeg ((0 : Int32) + nI k) = k := by rw [i0, n_tn k]
      refine s_X12_earth_6 (by omega) u _ _ _ (fun c => absurd c g) (fun _ => by rw [i0]; exact n_in _ _) (fun _ => ?_)
      rw [e15, n_earth (hDb k hk), t15]
      have vok := eD_ok hb hk
      have vm : mD (ax_ui u 15 k (nI (min 99 (D k + 10)))) (eD D k) := hu.2.set k _
      have vf : fo scK (ax_ui u 15 k (nI (min 99 (D k + 10)))) τ := hu.1.ui (Or.inr rfl)
      have vM : bk_M (ax_ui u 15 k (nI (min 99 (D k + 10)))) n E (eD D k) dry := ⟨by rw [vf.1 0 23 (by unfold scK scM scm; omega)]; exact hM.1, by rw [vf.1 0 24 (by unfold scK scM scm; omega)]; exact hM.2.1, vm, fun a b ha hb' => by rw [vf.1 14 _ (by unfold scK scM scm; omega)]; exact hM.2.2.2 a b ha hb'⟩
      refine (ct_X12_standsOf (by omega) (st_ok vok (kpf_le E (eD D k) dry ho L)) vM.1 vm (mkK_of hlw (st_Hm vok vM) (hlM.to vf.1 (fun c i hs => by unfold scK scM scm at hs; omega)) hn) fo.rfl').mono ?_
      rintro r w ⟨rfl, w1⟩
      have kw : KS τ D (ax_ui w 15 (Int32.toNatClampNeg ((0 : Int32) + nI k)) (nI (D k))) := by
        rw [t15]
        refine ⟨((w1.mono scm_scK).trans vf).ui (Or.inr rfl), ((vm.to w1 scm15).set k (D k)).cong (fun j hj => ?_)⟩
        unfold dset
        by_cases e : j = k
        · rw [if_pos e, e]
        · rw [if_neg e]; exact (eD_ne e).symm
      obtain ⟨K1, K2, K3⟩ := K _ kw
      refine ⟨_, rfl, s_X12_earth_46 (by omega) w _ _ _ _ _ (by rw [i0]; exact n_in _ _) (fun c => ?_) (fun c c2 => ?_) (fun c c2 => ?_)⟩
      · rw [nI_1]; exact K1 c
      · rw [nI_1]; exact K2 c c2
      · rw [nI_1]; exact K3 c c2
    have loop := lp_up (m := n) (P := fun k => 1 ≤ k → ∀ u, KS τ D u → ax_W shM (59 + 1) mX12_earth (fun r t => r = some (ax_i (erL n (ew n E D dry ho L) (999 - mnb D n) (mnb D n) (fun _ => true))) ∧ KS τ D t) 6 [some (ax_r 0), some (ax_i (nI (mxi st k))), some (ax_i (nI (st (mxi st k)))), some (ax_i (nI k)), none, none] [] u) ?_ ?_
    · by_cases h0 : n = 0
      · have g : τ.1 0 23 ≤ nI 0 := by rw [hM.1, h0]; exact (n_le _ _).mpr (Nat.le_refl _)
        have K : KS τ D τ := ⟨fo.rfl', hM.2.2.1⟩
        refine s_X12_earth_6 (by omega) τ _ _ _ (fun _ => ⟨?_, K⟩) (fun c => absurd g c) (fun c => absurd g c)
        have : erL n (ew n E D dry ho L) (999 - mnb D n) (mnb D n) (fun _ => true) = -1 := by
          subst h0
          have : ∀ f v q, erL 0 (ew 0 E D dry ho L) f v q = -1 := fun f => by
            cases f with
            | zero => intro v q; rfl
            | succ f => intro v q; rw [erL, if_pos (show pn_set 0 _ = 0 from rfl)]; rfl
          exact this _ _ _
        rw [this]
      · refine step 0 (by omega) τ ⟨fo.rfl', hM.2.2.1⟩ (-1) 0 (fun w hw => ⟨fun _ => ?_, fun c => absurd rfl c, fun c => absurd rfl c⟩)
        have := loop 1 (by omega) (by omega) w hw
        have e : mxi st 1 = 0 := by rw [mxi, mxi, if_neg (by omega)]
        rw [e] at this; exact this
    · intro h1 u hu
      have g : u.1 0 23 ≤ nI n := by rw [hu.h23 hM.1]; exact (n_le _ _).mpr (Nat.le_refl _)
      exact s_X12_earth_6 (by omega) u _ _ _ (fun _ => ⟨by rw [efin (by omega)], hu⟩) (fun c => absurd g c) (fun c => absurd g c)
    · intro k hk ih h1 u hu
      have hml := mxi_lt st k h1
      have hs1 := hst9 k
      have hs2 := hst9 (mxi st k)
      refine step k hk u hu _ _ (fun w hw => ⟨fun c => absurd c (n_m1 _), fun _ c => ?_, fun _ c => ?_⟩)
      · have c2 := (n_le _ _).mp c
        have := ih (by omega) w hw
        rw [mxi, if_neg (by omega)] at this; exact this
      · have c2 : st (mxi st k) < st k := Nat.not_le.mp (fun z => c ((n_le _ _).mpr z))
        have := ih (by omega) w hw
        rw [mxi, if_pos c2] at this; exact this
