/-! ===== TOWNS ===== -/
def tw1 (lv : Nat → Bool) (fr to : Nat → Nat) (w : Nat) (f : Nat → Bool) : Nat → Bool := if lv w && (f (fr w) || f (to w)) then (fun h => f h || (decide (h = fr w) || decide (h = to w))) else f
def rpK (lv : Nat → Bool) (fr to : Nat → Nat) : Nat → (Nat → Bool) → Nat → Bool
  | 0, f => f
  | k + 1, f => tw1 lv fr to k (rpK lv fr to k f)
def rpN (lv : Nat → Bool) (fr to : Nat → Nat) (m : Nat) : Nat → (Nat → Bool) → Nat → Bool
  | 0, f => f
  | r + 1, f => rpK lv fr to m (rpN lv fr to m r f)
theorem tw1_up {lv : Nat → Bool} {fr to : Nat → Nat} {w : Nat} {f : Nat → Bool} {h : Nat} (hf : f h = true) : tw1 lv fr to w f h = true := by
  unfold tw1; split
  · show (f h || _) = true; rw [hf]; rfl
  · exact hf
theorem rpK_up {lv : Nat → Bool} {fr to : Nat → Nat} {f : Nat → Bool} {h : Nat} (hf : f h = true) : ∀ k, rpK lv fr to k f h = true
  | 0 => hf
  | k + 1 => tw1_up (rpK_up hf k)
theorem rpN_up {lv : Nat → Bool} {fr to : Nat → Nat} {m : Nat} {f : Nat → Bool} {h : Nat} (hf : f h = true) : ∀ r, rpN lv fr to m r f h = true
  | 0 => hf
  | r + 1 => rpK_up (rpN_up hf r) m
theorem rpK_out {lv : Nat → Bool} {fr to : Nat → Nat} {f : Nat → Bool} {n h : Nat} (hh : n ≤ h) : ∀ k, (∀ w, w < k → fr w < n ∧ to w < n) → rpK lv fr to k f h = f h
  | 0, _ => rfl
  | k + 1, hw => by
    rw [rpK, tw1]
    have ih := rpK_out (lv := lv) (f := f) hh k (fun w h => hw w (by omega))
    split
    · have := hw k (by omega)
      show (_ || (decide (h = fr k) || decide (h = to k))) = f h
      rw [decide_eq_false (by omega), decide_eq_false (by omega), ih]; simp
    · exact ih
theorem rpN_out {lv : Nat → Bool} {fr to : Nat → Nat} {f : Nat → Bool} {m n h : Nat} (hh : n ≤ h) (hw : ∀ w, w < m → fr w < n ∧ to w < n) : ∀ r, rpN lv fr to m r f h = f h
  | 0 => rfl
  | r + 1 => by rw [rpN, rpK_out hh m hw, rpN_out hh hw r]
theorem ct_same {p q : Nat → Bool} {n : Nat} (h : ∀ k, k < n → p k = true → q k = true) (e : fb_ct q n = fb_ct p n) : ∀ k, k < n → q k = p k := by
  have h1 : fb_ct (fun k => p k || (q k && !p k)) n = fb_ct p n + fb_ct (fun k => q k && !p k) n := fb_ct_or (fun k hk => by cases p k <;> simp)
  have h2 : fb_ct (fun k => p k || (q k && !p k)) n = fb_ct q n := fb_ct_cong (fun k hk => by
    cases hp : p k
    · simp
    · rw [h k hk hp]; rfl)
  have h3 : fb_ct (fun k => q k && !p k) n = 0 := by omega
  intro k hk
  have := fb_ct_zero.mp h3 k hk
  cases hp : p k
  · rw [hp] at this; simpa using this
  · exact h k hk hp
theorem rp_grow {lv : Nat → Bool} {fr to : Nat → Nat} {m n : Nat} (hw : ∀ w, w < m → fr w < n ∧ to w < n) (g : Nat → Bool) : rpK lv fr to m g = g ∨ fb_ct g n + 1 ≤ fb_ct (rpK lv fr to m g) n := by
  have hsub : fb_ct g n ≤ fb_ct (rpK lv fr to m g) n := fb_ct_sub (fun k _ hk => rpK_up hk m)
  by_cases e : fb_ct (rpK lv fr to m g) n = fb_ct g n
  · left
    funext h
    by_cases hh : h < n
    · exact ct_same (fun k _ hk => rpK_up hk m) e h hh
    · exact rpK_out (by omega) m hw
  · right; omega
theorem rp_stay {lv : Nat → Bool} {fr to : Nat → Nat} {m i : Nat} {f : Nat → Bool} (h : rpK lv fr to m (rpN lv fr to m i f) = rpN lv fr to m i f) : ∀ j, rpN lv fr to m (i + j) f = rpN lv fr to m i f
  | 0 => rfl
  | j + 1 => by rw [← Nat.add_assoc, rpN, rp_stay h j, h]
theorem rp_fix {lv : Nat → Bool} {fr to : Nat → Nat} {m n : Nat} (hw : ∀ w, w < m → fr w < n ∧ to w < n) {f : Nat → Bool} (hf : 1 ≤ fb_ct f n) : rpK lv fr to m (rpN lv fr to m n f) = rpN lv fr to m n f := by
  have key : ∀ r, (∃ i, i ≤ r ∧ rpK lv fr to m (rpN lv fr to m i f) = rpN lv fr to m i f) ∨ 1 + r ≤ fb_ct (rpN lv fr to m r f) n := by
    intro r
    induction r with
    | zero => right; show 1 + 0 ≤ fb_ct f n; omega
    | succ r ih =>
      rcases ih with ⟨i, hi, h⟩ | h
      · left; exact ⟨i, by omega, h⟩
      · rcases rp_grow hw (rpN lv fr to m r f) with h2 | h2
        · left; exact ⟨r, by omega, h2⟩
        · right; rw [rpN]; omega
  rcases key n with ⟨i, hi, h⟩ | h
  · have e := rp_stay h (n - i)
    rw [show i + (n - i) = n by omega] at e
    rw [e]; exact h
  · have := fb_ct_le (rpN lv fr to m n f) n; omega
theorem rp_8 {lv : Nat → Bool} {fr to : Nat → Nat} {m n i : Nat} (hn : n ≤ 8) (hw : ∀ w, w < m → fr w < n ∧ to w < n) {f : Nat → Bool} (hf : 1 ≤ fb_ct f n) (hi : i = n ∨ (i ≤ 8 ∧ rpK lv fr to m (rpN lv fr to m i f) = rpN lv fr to m i f)) : rpN lv fr to m i f = rpN lv fr to m 8 f := by
  rcases hi with rfl | ⟨h1, h2⟩
  · have e := rp_stay (lv := lv) (rp_fix (lv := lv) hw hf) (8 - i)
    rw [show i + (8 - i) = 8 by omega] at e
    exact e.symm
  · have e := rp_stay h2 (8 - i)
    rw [show i + (8 - i) = 8 by omega] at e
    exact e.symm
def twn (D : Nat → Nat) (lv : Nat → Bool) (h : Nat) : Nat → Bool := rpN lv (fun w => bk_w D w 0) (fun w => bk_w D w 1) (D 84) 8 (fun k => decide (k = h))
theorem set_bit {n a : Nat} {f : Nat → Bool} (hn : n ≤ 8) (ha : a < n) : ((pn_set n f >>> (nI a &&& 31)) &&& (1 : Int32) = 1) ↔ f a = true := by
  rw [pn_bitOf1 _ a (by omega), pn_set_bt f n (by omega) a (by omega), decide_eq_true ha, Bool.true_and]
theorem set_or {n a b : Nat} {f : Nat → Bool} (hn : n ≤ 8) (ha : a < n) (hb : b < n) : pn_set n f ||| (((1 : Int32) <<< (nI a &&& 31)) ||| ((1 : Int32) <<< (nI b &&& 31))) = pn_set n (fun h => f h || (decide (h = a) || decide (h = b))) := by
  refine pn_set_eq (by omega) (fun i hi => ?_)
  rw [b_or, b_or, pn_set_bt f n (by omega) i hi, pn_one a (by omega) i hi, pn_one b (by omega) i hi]
  by_cases z : i < n
  · rw [decide_eq_true z]; rfl
  · rw [decide_eq_false z, decide_eq_false (by omega), decide_eq_false (by omega)]; rfl
theorem set_and {n a b : Nat} {f : Nat → Bool} (hn : n ≤ 8) (ha : a < n) (hb : b < n) : (pn_set n f &&& (((1 : Int32) <<< (nI a &&& 31)) ||| ((1 : Int32) <<< (nI b &&& 31)))) = 0 ↔ (f a || f b) = false := by
  constructor
  · intro h
    have g : ∀ k, k < n → (k = a ∨ k = b) → f k = false := fun k hk hab => by
      have e : bt (pn_set n f &&& (((1 : Int32) <<< (nI a &&& 31)) ||| ((1 : Int32) <<< (nI b &&& 31)))) k = false := by rw [h, b_0]
      rw [b_and, b_or, pn_set_bt f n (by omega) k (by omega), pn_one a (by omega) k (by omega), pn_one b (by omega) k (by omega), decide_eq_true hk, Bool.true_and] at e
      have : (decide (k = a) || decide (k = b)) = true := by rw [Bool.or_eq_true, decide_eq_true_eq, decide_eq_true_eq]; exact hab
      rw [this, Bool.and_true] at e; exact e
    rw [g a ha (Or.inl rfl), g b hb (Or.inr rfl)]; rfl
  · intro h
    rw [Bool.or_eq_false_iff] at h
    refine b_ext fun i hi => ?_
    rw [b_and, b_or, pn_set_bt f n (by omega) i hi, pn_one a (by omega) i hi, pn_one b (by omega) i hi, b_0]
    by_cases z : i = a
    · rw [z, h.1]; simp
    · by_cases z2 : i = b
      · rw [z2, h.2]; simp
      · rw [decide_eq_false z, decide_eq_false z2]; simp
theorem set_one {n a : Nat} (hn : n ≤ 8) (ha : a < n) : ((1 : Int32) <<< (nI a &&& 31)) = pn_set n (fun k => decide (k = a)) := by
  refine pn_set_eq (by omega) (fun i hi => ?_)
  rw [pn_one a (by omega) i hi]
  by_cases z : i = a
  · rw [decide_eq_true z, decide_eq_true (by omega)]; rfl
  · rw [decide_eq_false z, Bool.and_false]
theorem set_inj {n : Nat} (hn : n ≤ 8) {f g : Nat → Bool} (h : pn_set n f = pn_set n g) : ∀ k, k < n → f k = g k := fun k hk => by
  have e : bt (pn_set n f) k = bt (pn_set n g) k := by rw [h]
  rw [pn_set_bt f n (by omega) k (by omega), pn_set_bt g n (by omega) k (by omega), decide_eq_true hk] at e
  exact e
theorem one_ct {n h : Nat} (hh : h < n) : 1 ≤ fb_ct (fun k => decide (k = h)) n := fb_ct_pos.mpr ⟨h, hh, decide_eq_true rfl⟩
/-- Belt.reach -/
theorem ct_X0_reach {d : Nat} (hd : 2 ≤ d) {σ : ax_S} {n : Nat} {E D : Nat → Nat} {dry : Nat} (hb : bk_ok n E D dry) (hC : bk_C σ n E D dry) {bits : Int32} {lv : Nat → Bool} (hl : ∀ w, w < D 84 → bt bits w = lv w) {h : Nat} (hh : h < n) :
    ax_Ct shC d mX0_reach [ax_r 5, ax_i bits, ax_i (nI h)] (fun r u => r = some (ax_i (pn_set n (twn D lv h))) ∧ u = σ) σ := by
  obtain ⟨d, rfl⟩ : ∃ e, d = e + 1 := ⟨d - 1, by omega⟩
  have hn := hb.2.1
  have h84 := hb.2.2.2.1
  have hw := hb.2.2.2.2.2.2.2.2
  have hw2 : ∀ w, w < D 84 → bk_w D w 0 < n ∧ bk_w D w 1 < n := fun w h => ⟨(hw w h).1, (hw w h).2.1⟩
  refine ax_Ct.of (lv := [some (ax_r 5), some (ax_i bits), some (ax_i (nI h)), none, none, none, none, none]) (by decide +kernel) (fun ad => Nat.le_of_ble_eq_true rfl) (fun ad => rfl) ?_
  refine s_X0_reach_0 (by omega) σ _ _ ?_
  rw [set_one hn hh]
  have loop := lp_up (m := n) (P := fun r => ax_W shC (d + 1) mX0_reach (fun r u => r = some (ax_i (pn_set n (twn D lv h))) ∧ u = σ) 7 [some (ax_r 5), some (ax_i bits), none, some (ax_i (pn_set n (rpN lv (fun w => bk_w D w 0) (fun w => bk_w D w 1) (D 84) r (fun k => decide (k = h))))), some (ax_i (nI r)), none, none, none] [] σ) ?_ ?_
  · exact loop 0 (Nat.zero_le _)
  · refine s_X0_reach_7 (by omega) σ _ _ _ (fun _ => ⟨?_, rfl⟩) (fun c => absurd (by rw [hC.1]; exact (n_le n n).mpr (Nat.le_refl n)) c)
    unfold twn
    rw [rp_8 hn hw2 (one_ct hh) (Or.inl rfl)]
  · intro r hr ih
    refine s_X0_reach_7 (by omega) σ _ _ _ (fun c => absurd (by rw [hC.1] at c; exact (n_le n r).mp c) (by omega)) (fun _ => ?_)
    have inner := lp_up (m := D 84) (P := fun k => ax_W shC (d + 1) mX0_reach (fun r u => r = some (ax_i (pn_set n (twn D lv h))) ∧ u = σ) 22 [some (ax_r 5), some (ax_i bits), none, some (ax_i (pn_set n (rpK lv (fun w => bk_w D w 0) (fun w => bk_w D w 1) k (rpN lv (fun w => bk_w D w 0) (fun w => bk_w D w 1) (D 84) r (fun k => decide (k = h)))))), some (ax_i (nI r)), some (ax_i (pn_set n (rpN lv (fun w => bk_w D w 0) (fun w => bk_w D w 1) (D 84) r (fun k => decide (k = h))))), some (ax_i (nI k)), none] [] σ) ?_ ?_
    · exact inner 0 (Nat.zero_le _)
    · have gle : σ.1 5 10 ≤ nI (D 84) := by rw [hC.2.1]; exact (n_le _ _).mpr (Nat.le_refl _)
      refine s_X0_reach_22 (by omega) σ _ _ _ _ _ (fun _ c => ?_) (fun _ c => ?_) (fun c => absurd gle c) (fun c => absurd gle c) (fun c => absurd gle c) (fun c => absurd gle c)
      · rw [nI_1]; exact ih
      · have e := set_inj hn (Classical.not_not.mp c)
        have e2 : rpK lv (fun w => bk_w D w 0) (fun w => bk_w D w 1) (D 84) (rpN lv (fun w => bk_w D w 0) (fun w => bk_w D w 1) (D 84) r (fun k => decide (k = h))) = rpN lv (fun w => bk_w D w 0) (fun w => bk_w D w 1) (D 84) r (fun k => decide (k = h)) := by
          funext k
          by_cases hk : k < n
          · exact e k hk
          · exact rpK_out (by omega) _ hw2
        refine ⟨?_, rfl⟩
        unfold twn
        rw [e2, rp_8 hn hw2 (one_ct hh) (Or.inr ⟨by omega, e2⟩)]
    · intro k hk ihk
      obtain ⟨a1, a2, -⟩ := hw k hk
      obtain ⟨e1, e2, -⟩ := hC.2.2.2.2.2.2.1 k hk
      have gle : ¬ σ.1 5 10 ≤ nI k := by rw [hC.2.1]; exact fun z => absurd ((n_le _ _).mp z) (by omega)
      have hbit := pn_bitOf1 bits k (by omega)
      rw [hl k hk] at hbit
      refine s_X0_reach_22 (by omega) σ _ _ _ _ _ (fun c => absurd c gle) (fun c => absurd c gle) (fun _ => n_in _ _) (fun _ c => ?_) (fun _ c c2 => ?_) (fun _ c c2 => ?_)
      · rw [nI_1]
        have z : lv k = false := by cases q : lv k
                                    · rfl
                                    · exact absurd (hbit.mpr q) c
        rw [rpK, tw1, if_neg (by rw [z]; exact Bool.false_ne_true)] at ihk
        exact ihk
      · rw [n_tn k, e1, e2] at c2
        have z2 := (set_and hn a1 a2).mp c2
        rw [nI_1]
        rw [rpK, tw1, if_neg (by rw [z2]; simp)] at ihk
        exact ihk
      · rw [n_tn k, e1, e2] at c2 ⊢
        have z : lv k = true := hbit.mp (Classical.not_not.mp c)
        have z2 : (rpK lv (fun w => bk_w D w 0) (fun w => bk_w D w 1) k (rpN lv (fun w => bk_w D w 0) (fun w => bk_w D w 1) (D 84) r (fun k => decide (k = h))) (bk_w D k 0) || rpK lv (fun w => bk_w D w 0) (fun w => bk_w D w 1) k (rpN lv (fun w => bk_w D w 0) (fun w => bk_w D w 1) (D 84) r (fun k => decide (k = h))) (bk_w D k 1)) = true := by
          cases q : (rpK lv (fun w => bk_w D w 0) (fun w => bk_w D w 1) k (rpN lv (fun w => bk_w D w 0) (fun w => bk_w D w 1) (D 84) r (fun k => decide (k = h))) (bk_w D k 0) || rpK lv (fun w => bk_w D w 0) (fun w => bk_w D w 1) k (rpN lv (fun w => bk_w D w 0) (fun w => bk_w D w 1) (D 84) r (fun k => decide (k = h))) (bk_w D k 1))
          · exact absurd ((set_and hn a1 a2).mpr q) c2
          · rfl
        rw [nI_1, set_or hn a1 a2]
        rw [rpK, tw1, if_pos (by rw [z]; exact z2)] at ihk
        exact ihk
/-- the reference's towns -/
theorem ct_X12_townBut {d : Nat} (hd : 3 ≤ d) {τ : ax_S} {n : Nat} {E D : Nat → Nat} {dry : Nat} (hb : bk_ok n E D dry) (hm : mD τ D) {h b : Nat} (hh : h < n) (hbb : b = 99 ∨ b < 17) :
    ax_Ct shM d mX12_townBut [ax_r 0, ax_i (nI h), ax_i (sk_by b)] (fun r u => r = some (ax_i (pn_set n (twn D (fun w => bk_lv D w && !decide (w = b)) h))) ∧ u = τ) τ := by
  obtain ⟨d, rfl⟩ : ∃ e, d = e + 1 := ⟨d - 1, by omega⟩
  have hn := hb.2.1
  have h84 := hb.2.2.2.1
  have hw := hb.2.2.2.2.2.2.2.2
  have e84 : τ.1 15 84 = nI (D 84) := hm 84 (by omega)
  refine ax_Ct.of (lv := [some (ax_r 0), some (ax_i (nI h)), some (ax_i (sk_by b)), none, none, none]) (by decide +kernel) (fun ad => Nat.le_of_ble_eq_true rfl) (fun ad => rfl) ?_
  refine s_X12_townBut_0 (by omega) τ _ _ ?_
  rw [set_one hn hh]
  have loop := lp_up (m := 8) (P := fun r => ax_W shM (d + 1) mX12_townBut (fun r u => r = some (ax_i (pn_set n (twn D (fun w => bk_lv D w && !decide (w = b)) h))) ∧ u = τ) 7 [some (ax_r 0), none, some (ax_i (sk_by b)), some (ax_i (pn_set n (rpN (fun w => bk_lv D w && !decide (w = b)) (fun w => bk_w D w 0) (fun w => bk_w D w 1) (D 84) r (fun k => decide (k = h))))), some (ax_i (nI r)), none] [] τ) ?_ ?_
  · exact loop 0 (Nat.zero_le _)
  · exact s_X12_townBut_7 (by omega) τ _ _ _ (fun _ => ⟨rfl, rfl⟩) (fun c => absurd (by decide) c)
  · intro r hr ih
    refine s_X12_townBut_7 (by omega) τ _ _ _ (fun c => absurd ((n_le 8 r).mp c) (by omega)) (fun _ => ?_)
    have inner := lp_up (m := D 84) (P := fun k => ax_W shM (d + 1) mX12_townBut (fun r u => r = some (ax_i (pn_set n (twn D (fun w => bk_lv D w && !decide (w = b)) h))) ∧ u = τ) 17 [some (ax_r 0), none, some (ax_i (sk_by b)), some (ax_i (pn_set n (rpK (fun w => bk_lv D w && !decide (w = b)) (fun w => bk_w D w 0) (fun w => bk_w D w 1) k (rpN (fun w => bk_lv D w && !decide (w = b)) (fun w => bk_w D w 0) (fun w => bk_w D w 1) (D 84) r (fun k => decide (k = h)))))), some (ax_i (nI r)), some (ax_i (nI k))] [] τ) ?_ ?_
    · exact inner 0 (Nat.zero_le _)
    · have gle : τ.1 15 84 ≤ nI (D 84) := by rw [e84]; exact (n_le _ _).mpr (Nat.le_refl _)
      refine s_X12_townBut_17 (by omega) τ _ _ _ _ ?_ ?_ ?_ ?_ ?_ ?_ ?_ ?_ ?_ ?_ ?_ ?_ ?_ ?_ <;> intros <;> try contradiction
      rw [nI_1]; exact ih
    · intro k hk ihk
      obtain ⟨a1, a2, a3, a4, a5⟩ := hw k hk
      have gle : ¬ τ.1 15 84 ≤ nI k := by rw [e84]; exact fun z => absurd ((n_le _ _).mp z) (by omega)
      have i3 : (16 : Int32) + 4 * nI k + 3 = nI (16 + 4 * k + 3) := n_w k 3
      have i2 : (16 : Int32) + 4 * nI k + 2 = nI (16 + 4 * k + 2) := n_w k 2
      have i1 : (16 : Int32) + 4 * nI k + 1 = nI (16 + 4 * k + 1) := n_w k 1
      have i0 : (16 : Int32) + 4 * nI k + 0 = nI (16 + 4 * k + 0) := n_w k 0
      have t3 : Int32.toNatClampNeg (nI (16 + 4 * k + 3)) = 16 + 4 * k + 3 := n_tn _
      have t2 : Int32.toNatClampNeg (nI (16 + 4 * k + 2)) = 16 + 4 * k + 2 := n_tn _
      have t1 : Int32.toNatClampNeg (nI (16 + 4 * k + 1)) = 16 + 4 * k + 1 := n_tn _
      have t0 : Int32.toNatClampNeg (nI (16 + 4 * k + 0)) = 16 + 4 * k + 0 := n_tn _
      have w3 : τ.1 15 (16 + 4 * k + 3) = nI (bk_w D k 3) := hm _ (by omega)
      have w2 : τ.1 15 (16 + 4 * k + 2) = nI (bk_w D k 2) := hm _ (by omega)
      have w1 : τ.1 15 (16 + 4 * k + 1) = nI (bk_w D k 1) := hm _ (by omega)
      have w0 : τ.1 15 (16 + 4 * k + 0) = nI (bk_w D k 0) := hm _ (by omega)
      have hlv := lv_if (D := D) (k := k) a4 a5
      have hby : nI k = sk_by b ↔ k = b := by
        unfold sk_by
        rcases hbb with rfl | hb17
        · rw [if_pos rfl]
          exact ⟨fun q => absurd q (n_m1 k), fun q => absurd q (by omega)⟩
        · rw [if_neg (by omega)]; exact n_eq k b
      generalize hg : rpK (fun w => bk_lv D w && !decide (w = b)) (fun w => bk_w D w 0) (fun w => bk_w D w 1) k (rpN (fun w => bk_lv D w && !decide (w = b)) (fun w => bk_w D w 0) (fun w => bk_w D w 1) (D 84) r (fun k => decide (k = h))) = f at ihk ⊢
      rw [rpK, hg] at ihk
      have skip : ((bk_lv D k && !decide (k = b)) && (f (bk_w D k 0) || f (bk_w D k 1))) = false → ax_W shM (d + 1) mX12_townBut (fun r u => r = some (ax_i (pn_set n (twn D (fun w => bk_lv D w && !decide (w = b)) h))) ∧ u = τ) 17 [some (ax_r 0), none, some (ax_i (sk_by b)), some (ax_i (pn_set n f)), some (ax_i (nI r)), some (ax_i (nI k + 1))] [] τ := fun z => by
        rw [tw1, if_neg (by rw [z]; decide)] at ihk
        rw [nI_1]; exact ihk
      have take : ((bk_lv D k && !decide (k = b)) && (f (bk_w D k 0) || f (bk_w D k 1))) = true → ax_W shM (d + 1) mX12_townBut (fun r u => r = some (ax_i (pn_set n (twn D (fun w => bk_lv D w && !decide (w = b)) h))) ∧ u = τ) 17 [some (ax_r 0), none, some (ax_i (sk_by b)), some (ax_i (pn_set n f ||| (((1 : Int32) <<< (nI (bk_w D k 0) &&& 31)) ||| ((1 : Int32) <<< (nI (bk_w D k 1) &&& 31))))), some (ax_i (nI r)), some (ax_i (nI k + 1))] [] τ := fun z => by
        rw [tw1, if_pos z] at ihk
        rw [nI_1, set_or hn a1 a2]; exact ihk
      have s0 := set_bit (f := f) hn a1
      have s1 := set_bit (f := f) hn a2
      refine s_X12_townBut_17 (by omega) τ _ _ _ _ (fun c => absurd c gle) (fun _ c => ?_) (fun _ _ => by rw [i3]; exact n_in _ _) (fun _ _ _ => by rw [i2]; exact n_in _ _) (fun _ c1 c2 => ?_) (fun _ _ _ => by rw [i0]; exact n_in _ _) (fun _ _ _ _ => by rw [i0]; exact n_in _ _) (fun _ _ _ _ => by rw [i1]; exact n_in _ _) (fun _ c1 c2 c3 => ?_) (fun _ _ _ _ => by rw [i1]; exact n_in _ _) (fun _ c1 c2 c3 c4 => ?_) (fun _ _ _ _ _ => by rw [i0]; exact n_in _ _) (fun _ _ _ _ _ => by rw [i1]; exact n_in _ _) (fun _ c1 c2 c3 c4 => ?_)
      · exact skip (by rw [decide_eq_true (hby.mp c)]; simp)
      · rw [i3, i2, t3, t2, w3, w2] at c2
        have z : bk_lv D k = false := by cases q : bk_lv D k
                                         · rfl
                                         · exact absurd (hlv.mpr q) c2
        exact skip (by rw [z]; simp)
      · rw [i3, i2, t3, t2, w3, w2] at c2
        rw [i0, t0, w0] at c3
        rw [i0, t0, w0, i1, t1, w1]
        exact take (by rw [hlv.mp c2, decide_eq_false (fun q => c1 (hby.mpr q)), s0.mp (Classical.not_not.mp c3)]; rfl)
      · rw [i0, t0, w0] at c3
        rw [i1, t1, w1] at c4
        have z0 : f (bk_w D k 0) = false := by cases q : f (bk_w D k 0)
                                               · rfl
                                               · exact absurd (not_not_intro (s0.mpr q)) (fun z => c3 (fun y => z y))
        have z1 : f (bk_w D k 1) = false := by cases q : f (bk_w D k 1)
                                               · rfl
                                               · exact absurd (not_not_intro (s1.mpr q)) (fun z => c4 (fun y => z y))
        exact skip (by rw [z0, z1]; simp)
      · rw [i3, i2, t3, t2, w3, w2] at c2
        rw [i1, t1, w1] at c4
        rw [i0, t0, w0, i1, t1, w1]
        exact take (by rw [hlv.mp c2, decide_eq_false (fun q => c1 (hby.mpr q)), s1.mp (Classical.not_not.mp c4)]; simp)
theorem twn_cong {D : Nat → Nat} {lv lv' : Nat → Bool} {h : Nat} (e : ∀ w, w < D 84 → lv w = lv' w) : twn D lv h = twn D lv' h := by
  have hK : ∀ k, k ≤ D 84 → ∀ f, rpK lv (fun w => bk_w D w 0) (fun w => bk_w D w 1) k f = rpK lv' (fun w => bk_w D w 0) (fun w => bk_w D w 1) k f := by
    intro k
    induction k with
    | zero => intro _ f; rfl
    | succ k ih => intro hk f; rw [rpK, rpK, ih (by omega) f, tw1, tw1, e k (by omega)]
  have hN : ∀ r, ∀ f, rpN lv (fun w => bk_w D w 0) (fun w => bk_w D w 1) (D 84) r f = rpN lv' (fun w => bk_w D w 0) (fun w => bk_w D w 1) (D 84) r f := by
    intro r
    induction r with
    | zero => intro f; rfl
    | succ r ih => intro f; rw [rpN, rpN, ih f, hK _ (Nat.le_refl _)]
  exact hN 8 _
theorem twn_all {D : Nat → Nat} {h : Nat} (h84 : D 84 ≤ 16) : twn D (fun w => bk_lv D w && !decide (w = 99)) h = twn D (bk_lv D) h := twn_cong (fun w hw => by rw [decide_eq_false (by omega)]; simp)
theorem good_town {j : Nat} {σ τ : ax_S} (h : RR j σ τ) (a0 : Int32) : good j mX11_town mX12_town [ax_i a0] σ τ := by
  obtain ⟨n, E, D, dry, kp, hb, hlg, hC, hM, hok, hK, hKm, -⟩ := h.stroke
  have hn := hb.2.1
  have h84 := hb.2.2.2.1
  by_cases g : ∃ x, x < n ∧ a0 = nI x
  · obtain ⟨x, hx, rfl⟩ := g
    have q1 : ¬ nI x < 0 ∧ ¬ σ.1 5 9 ≤ nI x := by rw [hC.1]; exact (is_H (nI x) n).mpr ⟨x, hx, rfl⟩
    have q2 : ¬ nI x < (0 : Int32) ∧ ¬ τ.1 0 23 - 1 < nI x := by rw [hM.1]; exact (is_Hm (nI x) n).mpr ⟨x, hx, rfl⟩
    refine good.ask h (pn_set n (twn D (bk_lv D) x)) ?_ ?_
    · refine ax_Ct.of (lv := [some (ax_r 0), some (ax_i (nI x))]) (by decide +kernel) (fun ad => Nat.le_of_ble_eq_true rfl) (fun ad => rfl) ?_
      refine s_X11_town_0 (d := 59) (by omega) σ _ (fun c => absurd q1 c) (fun _ => ?_)
      refine (ct_live (by omega) hb hC).mono ?_
      rintro r u ⟨rfl, rfl⟩
      refine ⟨_, rfl, s_X11_town_19 (by omega) u _ _ ?_⟩
      refine (ct_X0_reach (by omega) hb hC (lv := bk_lv D) (fun w hw => by rw [lv_bt (by omega) w (by omega)]; unfold dk_lv; rw [decide_eq_true hw]; rfl) hx).mono ?_
      rintro r u ⟨rfl, rfl⟩
      exact ⟨_, rfl, s_X11_town_23 (by omega) u _ ⟨rfl, fo.rfl'⟩⟩
    · refine ax_Ct.of (lv := [some (ax_r 0), some (ax_i (nI x))]) (by decide +kernel) (fun ad => Nat.le_of_ble_eq_true rfl) (fun ad => rfl) ?_
      refine s_X12_town_0 (d := 59) (by omega) τ _ (fun c => absurd q2 c) (fun _ => ?_)
      refine (ct_X12_townBut (by omega) hb hM.2.2.1 hx (b := 99) (Or.inl rfl)).mono ?_
      rintro r u ⟨rfl, rfl⟩
      rw [twn_all h84]
      exact ⟨_, rfl, s_X12_town_14 (by omega) u _ ⟨rfl, fo.rfl'⟩⟩
  · refine good.ask h (-1) ?_ ?_
    · refine ax_Ct.of (lv := [some (ax_r 0), some (ax_i a0)]) (by decide +kernel) (fun ad => Nat.le_of_ble_eq_true rfl) (fun ad => rfl) ?_
      exact s_X11_town_0 (d := 59) (by omega) σ _ (fun _ => ⟨rfl, fo.rfl'⟩) (fun c => absurd ((is_H _ n).mp (by rw [← hC.1]; exact c)) g)
    · refine ax_Ct.of (lv := [some (ax_r 0), some (ax_i a0)]) (by decide +kernel) (fun ad => Nat.le_of_ble_eq_true rfl) (fun ad => rfl) ?_
      exact s_X12_town_0 (d := 59) (by omega) τ _ (fun _ => ⟨rfl, fo.rfl'⟩) (fun c => absurd ((is_Hm _ n).mp (by rw [← hM.1]; exact c)) g)
/-! ===== NET ===== -/
theorem nz_tab : ∀ k, k < 256 → k ≠ 0 → ∃ m, m < 8 ∧ ((nI k ^^^ (-1 : Int32)) &&& (nI k - (1 : Int32))) = nI (2 ^ m - 1) ∧ k.testBit m = true ∧ ∀ i, i < m → k.testBit i = false := by decide +kernel
set_option maxRecDepth 20000 in
theorem s_ntzM_0 {d : Nat} (hd : 0 ≤ d) {Q : Option ax_V → ax_S → Prop} (σ : ax_S) (a0 : Int32) (k1 : (0 < ((a0 ^^^ (-1 : Int32)) &&& (a0 - (1 : Int32)))) → (((a0 ^^^ (-1 : Int32)) &&& (a0 - (1 : Int32))) ≤ (65536 : Int32)) → (((a0 ^^^ (-1 : Int32)) &&& (a0 - (1 : Int32))) ≤ (256 : Int32)) → (((a0 ^^^ (-1 : Int32)) &&& (a0 - (1 : Int32))) ≤ (16 : Int32)) → (((a0 ^^^ (-1 : Int32)) &&& (a0 - (1 : Int32))) ≤ (4 : Int32)) → Q (some (ax_i ((1 : Int32) + (((((a0 ^^^ (-1 : Int32)) &&& (a0 - (1 : Int32)))).toUInt32 >>> (((1 : Int32)).toUInt32 &&& Int32.toUInt32 31)).toInt32)))) σ) (k2 : (0 < ((a0 ^^^ (-1 : Int32)) &&& (a0 - (1 : Int32)))) → (((a0 ^^^ (-1 : Int32)) &&& (a0 - (1 : Int32))) ≤ (65536 : Int32)) → (((a0 ^^^ (-1 : Int32)) &&& (a0 - (1 : Int32))) ≤ (256 : Int32)) → (((a0 ^^^ (-1 : Int32)) &&& (a0 - (1 : Int32))) ≤ (16 : Int32)) → (¬ (((a0 ^^^ (-1 : Int32)) &&& (a0 - (1 : Int32))) ≤ (4 : Int32))) → Q (some (ax_i (((1 : Int32) + (2 : Int32)) + ((((((((a0 ^^^ (-1 : Int32)) &&& (a0 - (1 : Int32)))).toUInt32 >>> (((2 : Int32)).toUInt32 &&& Int32.toUInt32 31)).toInt32)).toUInt32 >>> (((1 : Int32)).toUInt32 &&& Int32.toUInt32 31)).toInt32)))) σ) (k3 : (0 < ((a0 ^^^ (-1 : Int32)) &&& (a0 - (1 : Int32)))) → (((a0 ^^^ (-1 : Int32)) &&& (a0 - (1 : Int32))) ≤ (65536 : Int32)) → (((a0 ^^^ (-1 : Int32)) &&& (a0 - (1 : Int32))) ≤ (256 : Int32)) → (¬ (((a0 ^^^ (-1 : Int32)) &&& (a0 - (1 : Int32))) ≤ (16 : Int32))) → ((((((a0 ^^^ (-1 : Int32)) &&& (a0 - (1 : Int32)))).toUInt32 >>> (((4 : Int32)).toUInt32 &&& Int32.toUInt32 31)).toInt32) ≤ (4 : Int32)) → Q (some (ax_i (((1 : Int32) + (4 : Int32)) + ((((((((a0 ^^^ (-1 : Int32)) &&& (a0 - (1 : Int32)))).toUInt32 >>> (((4 : Int32)).toUInt32 &&& Int32.toUInt32 31)).toInt32)).toUInt32 >>> (((1 : Int32)).toUInt32 &&& Int32.toUInt32 31)).toInt32)))) σ) (k4 : (0 < ((a0 ^^^ (-1 : Int32)) &&& (a0 - (1 : Int32)))) → (((a0 ^^^ (-1 : Int32)) &&& (a0 - (1 : Int32))) ≤ (65536 : Int32)) → (((a0 ^^^ (-1 : Int32)) &&& (a0 - (1 : Int32))) ≤ (256 : Int32)) → (¬ (((a0 ^^^ (-1 : Int32)) &&& (a0 - (1 : Int32))) ≤ (16 : Int32))) → (¬ ((((((a0 ^^^ (-1 : Int32)) &&& (a0 - (1 : Int32)))).toUInt32 >>> (((4 : Int32)).toUInt32 &&& Int32.toUInt32 31)).toInt32) ≤ (4 : Int32))) → Q (some (ax_i ((((1 : Int32) + (4 : Int32)) + (2 : Int32)) + (((((((((((a0 ^^^ (-1 : Int32)) &&& (a0 - (1 : Int32)))).toUInt32 >>> (((4 : Int32)).toUInt32 &&& Int32.toUInt32 31)).toInt32)).toUInt32 >>> (((2 : Int32)).toUInt32 &&& Int32.toUInt32 31)).toInt32)).toUInt32 >>> (((1 : Int32)).toUInt32 &&& Int32.toUInt32 31)).toInt32)))) σ) (k5 : (0 < ((a0 ^^^ (-1 : Int32)) &&& (a0 - (1 : Int32)))) → (((a0 ^^^ (-1 : Int32)) &&& (a0 - (1 : Int32))) ≤ (65536 : Int32)) → (¬ (((a0 ^^^ (-1 : Int32)) &&& (a0 - (1 : Int32))) ≤ (256 : Int32))) → ((((((a0 ^^^ (-1 : Int32)) &&& (a0 - (1 : Int32)))).toUInt32 >>> (((8 : Int32)).toUInt32 &&& Int32.toUInt32 31)).toInt32) ≤ (16 : Int32)) → ((((((a0 ^^^ (-1 : Int32)) &&& (a0 - (1 : Int32)))).toUInt32 >>> (((8 : Int32)).toUInt32 &&& Int32.toUInt32 31)).toInt32) ≤ (4 : Int32)) → Q (some (ax_i (((1 : Int32) + (8 : Int32)) + ((((((((a0 ^^^ (-1 : Int32)) &&& (a0 - (1 : Int32)))).toUInt32 >>> (((8 : Int32)).toUInt32 &&& Int32.toUInt32 31)).toInt32)).toUInt32 >>> (((1 : Int32)).toUInt32 &&& Int32.toUInt32 31)).toInt32)))) σ) (k6 : (0 < ((a0 ^^^ (-1 : Int32)) &&& (a0 - (1 : Int32)))) → (((a0 ^^^ (-1 : Int32)) &&& (a0 - (1 : Int32))) ≤ (65536 : Int32)) → (¬ (((a0 ^^^ (-1 : Int32)) &&& (a0 - (1 : Int32))) ≤ (256 : Int32))) → ((((((a0 ^^^ (-1 : Int32)) &&& (a0 - (1 : Int32)))).toUInt32 >>> (((8 : Int32)).toUInt32 &&& Int32.toUInt32 31)).toInt32) ≤ (16 : Int32)) → (¬ ((((((a0 ^^^ (-1 : Int32)) &&& (a0 - (1 : Int32)))).toUInt32 >>> (((8 : Int32)).toUInt32 &&& Int32.toUInt32 31)).toInt32) ≤ (4 : Int32))) → Q (some (ax_i ((((1 : Int32) + (8 : Int32)) + (2 : Int32)) + (((((((((((a0 ^^^ (-1 : Int32)) &&& (a0 - (1 : Int32)))).toUInt32 >>> (((8 : Int32)).toUInt32 &&& Int32.toUInt32 31)).toInt32)).toUInt32 >>> (((2 : Int32)).toUInt32 &&& Int32.toUInt32 31)).toInt32)).toUInt32 >>> (((1 : Int32)).toUInt32 &&& Int32.toUInt32 31)).toInt32)))) σ) (k7 : (0 < ((a0 ^^^ (-1 : Int32)) &&& (a0 - (1 : Int32)))) → (((a0 ^^^ (-1 : Int32)) &&& (a0 - (1 : Int32))) ≤ (65536 : Int32)) → (¬ (((a0 ^^^ (-1 : Int32)) &&& (a0 - (1 : Int32))) ≤ (256 : Int32))) → (¬ ((((((a0 ^^^ (-1 : Int32)) &&& (a0 - (1 : Int32)))).toUInt32 >>> (((8 : Int32)).toUInt32 &&& Int32.toUInt32 31)).toInt32) ≤ (16 : Int32))) → (((((((((a0 ^^^ (-1 : Int32)) &&& (a0 - (1 : Int32)))).toUInt32 >>> (((8 : Int32)).toUInt32 &&& Int32.toUInt32 31)).toInt32)).toUInt32 >>> (((4 : Int32)).toUInt32 &&& Int32.toUInt32 31)).toInt32) ≤ (4 : Int32)) → Q (some (ax_i ((((1 : Int32) + (8 : Int32)) + (4 : Int32)) + (((((((((((a0 ^^^ (-1 : Int32)) &&& (a0 - (1 : Int32)))).toUInt32 >>> (((8 : Int32)).toUInt32 &&& Int32.toUInt32 31)).toInt32)).toUInt32 >>> (((4 : Int32)).toUInt32 &&& Int32.toUInt32 31)).toInt32)).toUInt32 >>> (((1 : Int32)).toUInt32 &&& Int32.toUInt32 31)).toInt32)))) σ) (k8 : (0 < ((a0 ^^^ (-1 : Int32)) &&& (a0 - (1 : Int32)))) → (((a0 ^^^ (-1 : Int32)) &&& (a0 - (1 : Int32))) ≤ (65536 : Int32)) → (¬ (((a0 ^^^ (-1 : Int32)) &&& (a0 - (1 : Int32))) ≤ (256 : Int32))) → (¬ ((((((a0 ^^^ (-1 : Int32)) &&& (a0 - (1 : Int32)))).toUInt32 >>> (((8 : Int32)).toUInt32 &&& Int32.toUInt32 31)).toInt32) ≤ (16 : Int32))) → (¬ (((((((((a0 ^^^ (-1 : Int32)) &&& (a0 - (1 : Int32)))).toUInt32 >>> (((8 : Int32)).toUInt32 &&& Int32.toUInt32 31)).toInt32)).toUInt32 >>> (((4 : Int32)).toUInt32 &&& Int32.toUInt32 31)).toInt32) ≤ (4 : Int32))) → Q (some (ax_i (((((1 : Int32) + (8 : Int32)) + (4 : Int32)) + (2 : Int32)) + ((((((((((((((a0 ^^^ (-1 : Int32)) &&& (a0 - (1 : Int32)))).toUInt32 >>> (((8 : Int32)).toUInt32 &&& Int32.toUInt32 31)).toInt32)).toUInt32 >>> (((4 : Int32)).toUInt32 &&& Int32.toUInt32 31)).toInt32)).toUInt32 >>> (((2 : Int32)).toUInt32 &&& Int32.toUInt32 31)).toInt32)).toUInt32 >>> (((1 : Int32)).toUInt32 &&& Int32.toUInt32 31)).toInt32)))) σ) (k9 : (0 < ((a0 ^^^ (-1 : Int32)) &&& (a0 - (1 : Int32)))) → (¬ (((a0 ^^^ (-1 : Int32)) &&& (a0 - (1 : Int32))) ≤ (65536 : Int32))) → ((((((a0 ^^^ (-1 : Int32)) &&& (a0 - (1 : Int32)))).toUInt32 >>> (((16 : Int32)).toUInt32 &&& Int32.toUInt32 31)).toInt32) ≤ (256 : Int32)) → ((((((a0 ^^^ (-1 : Int32)) &&& (a0 - (1 : Int32)))).toUInt32 >>> (((16 : Int32)).toUInt32 &&& Int32.toUInt32 31)).toInt32) ≤ (16 : Int32)) → ((((((a0 ^^^ (-1 : Int32)) &&& (a0 - (1 : Int32)))).toUInt32 >>> (((16 : Int32)).toUInt32 &&& Int32.toUInt32 31)).toInt32) ≤ (4 : Int32)) → Q (some (ax_i (((1 : Int32) + (16 : Int32)) + ((((((((a0 ^^^ (-1 : Int32)) &&& (a0 - (1 : Int32)))).toUInt32 >>> (((16 : Int32)).toUInt32 &&& Int32.toUInt32 31)).toInt32)).toUInt32 >>> (((1 : Int32)).toUInt32 &&& Int32.toUInt32 31)).toInt32)))) σ) (k10 : (0 < ((a0 ^^^ (-1 : Int32)) &&& (a0 - (1 : Int32)))) → (¬ (((a0 ^^^ (-1 : Int32)) &&& (a0 - (1 : Int32))) ≤ (65536 : Int32))) → ((((((a0 ^^^ (-1 : Int32)) &&& (a0 - (1 : Int32)))).toUInt32 >>> (((16 : Int32)).toUInt32 &&& Int32.toUInt32 31)).toInt32) ≤ (256 : Int32)) → ((((((a0 ^^^ (-1 : Int32)) &&& (a0 - (1 : Int32)))).toUInt32 >>> (((16 : Int32)).toUInt32 &&& Int32.toUInt32 31)).toInt32) ≤ (16 : Int32)) → (¬ ((((((a0 ^^^ (-1 : Int32)) &&& (a0 - (1 : Int32)))).toUInt32 >>> (((16 : Int32)).toUInt32 &&& Int32.toUInt32 31)).toInt32) ≤ (4 : Int32))) → Q (some (ax_i ((((1 : Int32) + (16 : Int32)) + (2 : Int32)) + (((((((((((a0 ^^^ (-1 : Int32)) &&& (a0 - (1 : Int32)))).toUInt32 >>> (((16 : Int32)).toUInt32 &&& Int32.toUInt32 31)).toInt32)).toUInt32 >>> (((2 : Int32)).toUInt32 &&& Int32.toUInt32 31)).toInt32)).toUInt32 >>> (((1 : Int32)).toUInt32 &&& Int32.toUInt32 31)).toInt32)))) σ) (k11 : (0 < ((a0 ^^^ (-1 : Int32)) &&& (a0 - (1 : Int32)))) → (¬ (((a0 ^^^ (-1 : Int32)) &&& (a0 - (1 : Int32))) ≤ (65536 : Int32))) → ((((((a0 ^^^ (-1 : Int32)) &&& (a0 - (1 : Int32)))).toUInt32 >>> (((16 : Int32)).toUInt32 &&& Int32.toUInt32 31)).toInt32) ≤ (256 : Int32)) → (¬ ((((((a0 ^^^ (-1 : Int32)) &&& (a0 - (1 : Int32)))).toUInt32 >>> (((16 : Int32)).toUInt32 &&& Int32.toUInt32 31)).toInt32) ≤ (16 : Int32))) → (((((((((a0 ^^^ (-1 : Int32)) &&& (a0 - (1 : Int32)))).toUInt32 >>> (((16 : Int32)).toUInt32 &&& Int32.toUInt32 31)).toInt32)).toUInt32 >>> (((4 : Int32)).toUInt32 &&& Int32.toUInt32 31)).toInt32) ≤ (4 : Int32)) → Q (some (ax_i ((((1 : Int32) + (16 : Int32)) + (4 : Int32)) + (((((((((((a0 ^^^ (-1 : Int32)) &&& (a0 - (1 : Int32)))).toUInt32 >>> (((16 : Int32)).toUInt32 &&& Int32.toUInt32 31)).toInt32)).toUInt32 >>> (((4 : Int32)).toUInt32 &&& Int32.toUInt32 31)).toInt32)).toUInt32 >>> (((1 : Int32)).toUInt32 &&& Int32.toUInt32 31)).toInt32)))) σ) (k12 : (0 < ((a0 ^^^ (-1 : Int32)) &&& (a0 - (1 : Int32)))) → (¬ (((a0 ^^^ (-1 : Int32)) &&& (a0 - (1 : Int32))) ≤ (65536 : Int32))) → ((((((a0 ^^^ (-1 : Int32)) &&& (a0 - (1 : Int32)))).toUInt32 >>> (((16 : Int32)).toUInt32 &&& Int32.toUInt32 31)).toInt32) ≤ (256 : Int32)) → (¬ ((((((a0 ^^^ (-1 : Int32)) &&& (a0 - (1 : Int32)))).toUInt32 >>> (((16 : Int32)).toUInt32 &&& Int32.toUInt32 31)).toInt32) ≤ (16 : Int32))) → (¬ (((((((((a0 ^^^ (-1 : Int32)) &&& (a0 - (1 : Int32)))).toUInt32 >>> (((16 : Int32)).toUInt32 &&& Int32.toUInt32 31)).toInt32)).toUInt32 >>> (((4 : Int32)).toUInt32 &&& Int32.toUInt32 31)).toInt32) ≤ (4 : Int32))) → Q (some (ax_i (((((1 : Int32) + (16 : Int32)) + (4 : Int32)) + (2 : Int32)) + ((((((((((((((a0 ^^^ (-1 : Int32)) &&& (a0 - (1 : Int32)))).toUInt32 >>> (((16 : Int32)).toUInt32 &&& Int32.toUInt32 31)).toInt32)).toUInt32 >>> (((4 : Int32)).toUInt32 &&& Int32.toUInt32 31)).toInt32)).toUInt32 >>> (((2 : Int32)).toUInt32 &&& Int32.toUInt32 31)).toInt32)).toUInt32 >>> (((1 : Int32)).toUInt32 &&& Int32.toUInt32 31)).toInt32)))) σ) (k13 : (0 < ((a0 ^^^ (-1 : Int32)) &&& (a0 - (1 : Int32)))) → (¬ (((a0 ^^^ (-1 : Int32)) &&& (a0 - (1 : Int32))) ≤ (65536 : Int32))) → (¬ ((((((a0 ^^^ (-1 : Int32)) &&& (a0 - (1 : Int32)))).toUInt32 >>> (((16 : Int32)).toUInt32 &&& Int32.toUInt32 31)).toInt32) ≤ (256 : Int32))) → (((((((((a0 ^^^ (-1 : Int32)) &&& (a0 - (1 : Int32)))).toUInt32 >>> (((16 : Int32)).toUInt32 &&& Int32.toUInt32 31)).toInt32)).toUInt32 >>> (((8 : Int32)).toUInt32 &&& Int32.toUInt32 31)).toInt32) ≤ (16 : Int32)) → (((((((((a0 ^^^ (-1 : Int32)) &&& (a0 - (1 : Int32)))).toUInt32 >>> (((16 : Int32)).toUInt32 &&& Int32.toUInt32 31)).toInt32)).toUInt32 >>> (((8 : Int32)).toUInt32 &&& Int32.toUInt32 31)).toInt32) ≤ (4 : Int32)) → Q (some (ax_i ((((1 : Int32) + (16 : Int32)) + (8 : Int32)) + (((((((((((a0 ^^^ (-1 : Int32)) &&& (a0 - (1 : Int32)))).toUInt32 >>> (((16 : Int32)).toUInt32 &&& Int32.toUInt32 31)).toInt32)).toUInt32 >>> (((8 : Int32)).toUInt32 &&& Int32.toUInt32 31)).toInt32)).toUInt32 >>> (((1 : Int32)).toUInt32 &&& Int32.toUInt32 31)).toInt32)))) σ) (k14 : (0 < ((a0 ^^^ (-1 : Int32)) &&& (a0 - (1 : Int32)))) → (¬ (((a0 ^^^ (-1 : Int32)) &&& (a0 - (1 : Int32))) ≤ (65536 : Int32))) → (¬ ((((((a0 ^^^ (-1 : Int32)) &&& (a0 - (1 : Int32)))).toUInt32 >>> (((16 : Int32)).toUInt32 &&& Int32.toUInt32 31)).toInt32) ≤ (256 : Int32))) → (((((((((a0 ^^^ (-1 : Int32)) &&& (a0 - (1 : Int32)))).toUInt32 >>> (((16 : Int32)).toUInt32 &&& Int32.toUInt32 31)).toInt32)).toUInt32 >>> (((8 : Int32)).toUInt32 &&& Int32.toUInt32 31)).toInt32) ≤ (16 : Int32)) → (¬ (((((((((a0 ^^^ (-1 : Int32)) &&& (a0 - (1 : Int32)))).toUInt32 >>> (((16 : Int32)).toUInt32 &&& Int32.toUInt32 31)).toInt32)).toUInt32 >>> (((8 : Int32)).toUInt32 &&& Int32.toUInt32 31)).toInt32) ≤ (4 : Int32))) → Q (some (ax_i (((((1 : Int32) + (16 : Int32)) + (8 : Int32)) + (2 : Int32)) + ((((((((((((((a0 ^^^ (-1 : Int32)) &&& (a0 - (1 : Int32)))).toUInt32 >>> (((16 : Int32)).toUInt32 &&& Int32.toUInt32 31)).toInt32)).toUInt32 >>> (((8 : Int32)).toUInt32 &&& Int32.toUInt32 31)).toInt32)).toUInt32 >>> (((2 : Int32)).toUInt32 &&& Int32.toUInt32 31)).toInt32)).toUInt32 >>> (((1 : Int32)).toUInt32 &&& Int32.toUInt32 31)).toInt32)))) σ) (k15 : (0 < ((a0 ^^^ (-1 : Int32)) &&& (a0 - (1 : Int32)))) → (¬ (((a0 ^^^ (-1 : Int32)) &&& (a0 - (1 : Int32))) ≤ (65536 : Int32))) → (¬ ((((((a0 ^^^ (-1 : Int32)) &&& (a0 - (1 : Int32)))).toUInt32 >>> (((16 : Int32)).toUInt32 &&& Int32.toUInt32 31)).toInt32) ≤ (256 : Int32))) → (¬ (((((((((a0 ^^^ (-1 : Int32)) &&& (a0 - (1 : Int32)))).toUInt32 >>> (((16 : Int32)).toUInt32 &&& Int32.toUInt32 31)).toInt32)).toUInt32 >>> (((8 : Int32)).toUInt32 &&& Int32.toUInt32 31)).toInt32) ≤ (16 : Int32))) → ((((((((((((a0 ^^^ (-1 : Int32)) &&& (a0 - (1 : Int32)))).toUInt32 >>> (((16 : Int32)).toUInt32 &&& Int32.toUInt32 31)).toInt32)).toUInt32 >>> (((8 : Int32)).toUInt32 &&& Int32.toUInt32 31)).toInt32)).toUInt32 >>> (((4 : Int32)).toUInt32 &&& Int32.toUInt32 31)).toInt32) ≤ (4 : Int32)) → Q (some (ax_i (((((1 : Int32) + (16 : Int32)) + (8 : Int32)) + (4 : Int32)) + ((((((((((((((a0 ^^^ (-1 : Int32)) &&& (a0 - (1 : Int32)))).toUInt32 >>> (((16 : Int32)).toUInt32 &&& Int32.toUInt32 31)).toInt32)).toUInt32 >>> (((8 : Int32)).toUInt32 &&& Int32.toUInt32 31)).toInt32)).toUInt32 >>> (((4 : Int32)).toUInt32 &&& Int32.toUInt32 31)).toInt32)).toUInt32 >>> (((1 : Int32)).toUInt32 &&& Int32.toUInt32 31)).toInt32)))) σ) (k16 : (0 < ((a0 ^^^ (-1 : Int32)) &&& (a0 - (1 : Int32)))) → (¬ (((a0 ^^^ (-1 : Int32)) &&& (a0 - (1 : Int32))) ≤ (65536 : Int32))) → (¬ ((((((a0 ^^^ (-1 : Int32)) &&& (a0 - (1 : Int32)))).toUInt32 >>> (((16 : Int32)).toUInt32 &&& Int32.toUInt32 31)).toInt32) ≤ (256 : Int32))) → (¬ (((((((((a0 ^^^ (-1 : Int32)) &&& (a0 - (1 : Int32)))).toUInt32 >>> (((16 : Int32)).toUInt32 &&& Int32.toUInt32 31)).toInt32)).toUInt32 >>> (((8 : Int32)).toUInt32 &&& Int32.toUInt32 31)).toInt32) ≤ (16 : Int32))) → (¬ ((((((((((((a0 ^^^ (-1 : Int32)) &&& (a0 - (1 : Int32)))).toUInt32 >>> (((16 : Int32)).toUInt32 &&& Int32.toUInt32 31)).toInt32)).toUInt32 >>> (((8 : Int32)).toUInt32 &&& Int32.toUInt32 31)).toInt32)).toUInt32 >>> (((4 : Int32)).toUInt32 &&& Int32.toUInt32 31)).toInt32) ≤ (4 : Int32))) → Q (some (ax_i ((((((1 : Int32) + (16 : Int32)) + (8 : Int32)) + (4 : Int32)) + (2 : Int32)) + (((((((((((((((((a0 ^^^ (-1 : Int32)) &&& (a0 - (1 : Int32)))).toUInt32 >>> (((16 : Int32)).toUInt32 &&& Int32.toUInt32 31)).toInt32)).toUInt32 >>> (((8 : Int32)).toUInt32 &&& Int32.toUInt32 31)).toInt32)).toUInt32 >>> (((4 : Int32)).toUInt32 &&& Int32.toUInt32 31)).toInt32)).toUInt32 >>> (((2 : Int32)).toUInt32 &&& Int32.toUInt32 31)).toInt32)).toUInt32 >>> (((1 : Int32)).toUInt32 &&& Int32.toUInt32 31)).toInt32)))) σ) (k17 : (¬ (0 < ((a0 ^^^ (-1 : Int32)) &&& (a0 - (1 : Int32))))) → Q (some (ax_i (((a0 ^^^ (-1 : Int32)) &&& (a0 - (1 : Int32))) &&& (32 : Int32)))) σ) : ax_W shM (d + 1) mJ6_numberOfTrailingZeros_0f7a4 Q 0 [some (ax_i a0), none] [] σ := by
  refine ax_iload_n (q := 1) (i := 0) dJ6_numberOfTrailingZeros_0f7a4_0 rfl rfl rfl ?_
  refine ax_iconst (q := 2) dJ6_numberOfTrailingZeros_0f7a4_1 rfl ki_m1 ?_
  refine ax_ixor (q := 3) dJ6_numberOfTrailingZeros_0f7a4_2 rfl ?_
  refine ax_iload_n (q := 4) (i := 0) dJ6_numberOfTrailingZeros_0f7a4_3 rfl rfl rfl ?_
  refine ax_iconst (q := 5) dJ6_numberOfTrailingZeros_0f7a4_4 rfl ki_1 ?_
  refine ax_isub (q := 6) dJ6_numberOfTrailingZeros_0f7a4_5 rfl ?_
  refine ax_iand (q := 7) dJ6_numberOfTrailingZeros_0f7a4_6 rfl ?_
  refine ax_istore_n (q := 8) (i := 0) (lv2 := [some (ax_i ((a0 ^^^ (-1 : Int32)) &&& (a0 - (1 : Int32)))), none]) dJ6_numberOfTrailingZeros_0f7a4_7 rfl rfl (by decide) rfl rfl ?_
  refine ax_iload_n (q := 9) (i := 0) dJ6_numberOfTrailingZeros_0f7a4_8 rfl rfl rfl ?_
  refine ax_if_gt (tgt := 17) (q := 12) dJ6_numberOfTrailingZeros_0f7a4_9 (by decide) rfl (fun c1 => ?_) (fun c1 => ?_)
  · refine ax_iconst (q := 18) dJ6_numberOfTrailingZeros_0f7a4_17 rfl ki_1 ?_
    refine ax_istore_n (q := 19) (i := 1) (lv2 := [some (ax_i ((a0 ^^^ (-1 : Int32)) &&& (a0 - (1 : Int32)))), some (ax_i (1 : Int32))]) dJ6_numberOfTrailingZeros_0f7a4_18 rfl rfl (by decide) rfl rfl ?_
    refine ax_iload_n (q := 20) (i := 0) dJ6_numberOfTrailingZeros_0f7a4_19 rfl rfl rfl ?_
    refine ax_ldcw (q := 23) dJ6_numberOfTrailingZeros_0f7a4_20 rfl kc_J6_264 ?_
    refine ax_icmp_le (tgt := 34) (q := 26) dJ6_numberOfTrailingZeros_0f7a4_23 (by decide) rfl (fun c2 => ?_) (fun c2 => ?_)
    · refine ax_iload_n (q := 35) (i := 0) dJ6_numberOfTrailingZeros_0f7a4_34 rfl rfl rfl ?_
      refine ax_sipush (q := 38) dJ6_numberOfTrailingZeros_0f7a4_35 rfl ks_256 ?_
      refine ax_icmp_le (tgt := 49) (q := 41) dJ6_numberOfTrailingZeros_0f7a4_38 (by decide) rfl (fun c3 => ?_) (fun c3 => ?_)
      · refine ax_iload_n (q := 50) (i := 0) dJ6_numberOfTrailingZeros_0f7a4_49 rfl rfl rfl ?_
        refine ax_bipush (q := 52) dJ6_numberOfTrailingZeros_0f7a4_50 rfl kb_16 ?_
        refine ax_icmp_le (tgt := 62) (q := 55) dJ6_numberOfTrailingZeros_0f7a4_52 (by decide) rfl (fun c4 => ?_) (fun c4 => ?_)
        · refine ax_iload_n (q := 63) (i := 0) dJ6_numberOfTrailingZeros_0f7a4_62 rfl rfl rfl ?_
          refine ax_iconst (q := 64) dJ6_numberOfTrailingZeros_0f7a4_63 rfl ki_4 ?_
          refine ax_icmp_le (tgt := 74) (q := 67) dJ6_numberOfTrailingZeros_0f7a4_64 (by decide) rfl (fun c5 => ?_) (fun c5 => ?_)
          · refine ax_iload_n (q := 75) (i := 1) dJ6_numberOfTrailingZeros_0f7a4_74 rfl rfl rfl ?_
            refine ax_iload_n (q := 76) (i := 0) dJ6_numberOfTrailingZeros_0f7a4_75 rfl rfl rfl ?_
            refine ax_iconst (q := 77) dJ6_numberOfTrailingZeros_0f7a4_76 rfl ki_1 ?_
            refine ax_iushr (q := 78) dJ6_numberOfTrailingZeros_0f7a4_77 rfl ?_
            refine ax_iadd (q := 79) dJ6_numberOfTrailingZeros_0f7a4_78 rfl ?_
            exact ax_iret dJ6_numberOfTrailingZeros_0f7a4_79 rfl rfl (k1 c1 c2 c3 c4 c5)
          · refine ax_iincK (q := 70) (lv2 := [some (ax_i ((a0 ^^^ (-1 : Int32)) &&& (a0 - (1 : Int32)))), some (ax_i ((1 : Int32) + (2 : Int32)))]) dJ6_numberOfTrailingZeros_0f7a4_67 rfl rfl ki_2 (by decide) rfl rfl ?_
            refine ax_iload_n (q := 71) (i := 0) dJ6_numberOfTrailingZeros_0f7a4_70 rfl rfl rfl ?_
            refine ax_iconst (q := 72) dJ6_numberOfTrailingZeros_0f7a4_71 rfl ki_2 ?_
            refine ax_iushr (q := 73) dJ6_numberOfTrailingZeros_0f7a4_72 rfl ?_
            refine ax_istore_n (q := 74) (i := 0) (lv2 := [some (ax_i (((((a0 ^^^ (-1 : Int32)) &&& (a0 - (1 : Int32)))).toUInt32 >>> (((2 : Int32)).toUInt32 &&& Int32.toUInt32 31)).toInt32)), some (ax_i ((1 : Int32) + (2 : Int32)))]) dJ6_numberOfTrailingZeros_0f7a4_73 rfl rfl (by decide) rfl rfl ?_
            refine ax_iload_n (q := 75) (i := 1) dJ6_numberOfTrailingZeros_0f7a4_74 rfl rfl rfl ?_
            refine ax_iload_n (q := 76) (i := 0) dJ6_numberOfTrailingZeros_0f7a4_75 rfl rfl rfl ?_
            refine ax_iconst (q := 77) dJ6_numberOfTrailingZeros_0f7a4_76 rfl ki_1 ?_
            refine ax_iushr (q := 78) dJ6_numberOfTrailingZeros_0f7a4_77 rfl ?_
            refine ax_iadd (q := 79) dJ6_numberOfTrailingZeros_0f7a4_78 rfl ?_
            exact ax_iret dJ6_numberOfTrailingZeros_0f7a4_79 rfl rfl (k2 c1 c2 c3 c4 c5)
        · refine ax_iincK (q := 58) (lv2 := [some (ax_i ((a0 ^^^ (-1 : Int32)) &&& (a0 - (1 : Int32)))), some (ax_i ((1 : Int32) + (4 : Int32)))]) dJ6_numberOfTrailingZeros_0f7a4_55 rfl rfl ki_4 (by decide) rfl rfl ?_
          refine ax_iload_n (q := 59) (i := 0) dJ6_numberOfTrailingZeros_0f7a4_58 rfl rfl rfl ?_
          refine ax_iconst (q := 60) dJ6_numberOfTrailingZeros_0f7a4_59 rfl ki_4 ?_
          refine ax_iushr (q := 61) dJ6_numberOfTrailingZeros_0f7a4_60 rfl ?_
          refine ax_istore_n (q := 62) (i := 0) (lv2 := [some (ax_i (((((a0 ^^^ (-1 : Int32)) &&& (a0 - (1 : Int32)))).toUInt32 >>> (((4 : Int32)).toUInt32 &&& Int32.toUInt32 31)).toInt32)), some (ax_i ((1 : Int32) + (4 : Int32)))]) dJ6_numberOfTrailingZeros_0f7a4_61 rfl rfl (by decide) rfl rfl ?_
          refine ax_iload_n (q := 63) (i := 0) dJ6_numberOfTrailingZeros_0f7a4_62 rfl rfl rfl ?_
          refine ax_iconst (q := 64) dJ6_numberOfTrailingZeros_0f7a4_63 rfl ki_4 ?_
          refine ax_icmp_le (tgt := 74) (q := 67) dJ6_numberOfTrailingZeros_0f7a4_64 (by decide) rfl (fun c6 => ?_) (fun c6 => ?_)
          · refine ax_iload_n (q := 75) (i := 1) dJ6_numberOfTrailingZeros_0f7a4_74 rfl rfl rfl ?_
            refine ax_iload_n (q := 76) (i := 0) dJ6_numberOfTrailingZeros_0f7a4_75 rfl rfl rfl ?_
            refine ax_iconst (q := 77) dJ6_numberOfTrailingZeros_0f7a4_76 rfl ki_1 ?_
            refine ax_iushr (q := 78) dJ6_numberOfTrailingZeros_0f7a4_77 rfl ?_
            refine ax_iadd (q := 79) dJ6_numberOfTrailingZeros_0f7a4_78 rfl ?_
            exact ax_iret dJ6_numberOfTrailingZeros_0f7a4_79 rfl rfl (k3 c1 c2 c3 c4 c6)
          · refine ax_iincK (q := 70) (lv2 := [some (ax_i (((((a0 ^^^ (-1 : Int32)) &&& (a0 - (1 : Int32)))).toUInt32 >>> (((4 : Int32)).toUInt32 &&& Int32.toUInt32 31)).toInt32)), some (ax_i (((1 : Int32) + (4 : Int32)) + (2 : Int32)))]) dJ6_numberOfTrailingZeros_0f7a4_67 rfl rfl ki_2 (by decide) rfl rfl ?_
            refine ax_iload_n (q := 71) (i := 0) dJ6_numberOfTrailingZeros_0f7a4_70 rfl rfl rfl ?_
            refine ax_iconst (q := 72) dJ6_numberOfTrailingZeros_0f7a4_71 rfl ki_2 ?_
            refine ax_iushr (q := 73) dJ6_numberOfTrailingZeros_0f7a4_72 rfl ?_
            refine ax_istore_n (q := 74) (i := 0) (lv2 := [some (ax_i ((((((((a0 ^^^ (-1 : Int32)) &&& (a0 - (1 : Int32)))).toUInt32 >>> (((4 : Int32)).toUInt32 &&& Int32.toUInt32 31)).toInt32)).toUInt32 >>> (((2 : Int32)).toUInt32 &&& Int32.toUInt32 31)).toInt32)), some (ax_i (((1 : Int32) + (4 : Int32)) + (2 : Int32)))]) dJ6_numberOfTrailingZeros_0f7a4_73 rfl rfl (by decide) rfl rfl ?_
            refine ax_iload_n (q := 75) (i := 1) dJ6_numberOfTrailingZeros_0f7a4_74 rfl rfl rfl ?_
            refine ax_iload_n (q := 76) (i := 0) dJ6_numberOfTrailingZeros_0f7a4_75 rfl rfl rfl ?_
            refine ax_iconst (q := 77) dJ6_numberOfTrailingZeros_0f7a4_76 rfl ki_1 ?_
            refine ax_iushr (q := 78) dJ6_numberOfTrailingZeros_0f7a4_77 rfl ?_
            refine ax_iadd (q := 79) dJ6_numberOfTrailingZeros_0f7a4_78 rfl ?_
            exact ax_iret dJ6_numberOfTrailingZeros_0f7a4_79 rfl rfl (k4 c1 c2 c3 c4 c6)
      · refine ax_iincK (q := 44) (lv2 := [some (ax_i ((a0 ^^^ (-1 : Int32)) &&& (a0 - (1 : Int32)))), some (ax_i ((1 : Int32) + (8 : Int32)))]) dJ6_numberOfTrailingZeros_0f7a4_41 rfl rfl ki_8 (by decide) rfl rfl ?_
        refine ax_iload_n (q := 45) (i := 0) dJ6_numberOfTrailingZeros_0f7a4_44 rfl rfl rfl ?_
        refine ax_bipush (q := 47) dJ6_numberOfTrailingZeros_0f7a4_45 rfl kb_8 ?_
        refine ax_iushr (q := 48) dJ6_numberOfTrailingZeros_0f7a4_47 rfl ?_
        refine ax_istore_n (q := 49) (i := 0) (lv2 := [some (ax_i (((((a0 ^^^ (-1 : Int32)) &&& (a0 - (1 : Int32)))).toUInt32 >>> (((8 : Int32)).toUInt32 &&& Int32.toUInt32 31)).toInt32)), some (ax_i ((1 : Int32) + (8 : Int32)))]) dJ6_numberOfTrailingZeros_0f7a4_48 rfl rfl (by decide) rfl rfl ?_
        refine ax_iload_n (q := 50) (i := 0) dJ6_numberOfTrailingZeros_0f7a4_49 rfl rfl rfl ?_
        refine ax_bipush (q := 52) dJ6_numberOfTrailingZeros_0f7a4_50 rfl kb_16 ?_
        refine ax_icmp_le (tgt := 62) (q := 55) dJ6_numberOfTrailingZeros_0f7a4_52 (by decide) rfl (fun c7 => ?_) (fun c7 => ?_)
        · refine ax_iload_n (q := 63) (i := 0) dJ6_numberOfTrailingZeros_0f7a4_62 rfl rfl rfl ?_
          refine ax_iconst (q := 64) dJ6_numberOfTrailingZeros_0f7a4_63 rfl ki_4 ?_
          refine ax_icmp_le (tgt := 74) (q := 67) dJ6_numberOfTrailingZeros_0f7a4_64 (by decide) rfl (fun c8 => ?_) (fun c8 => ?_)
          · refine ax_iload_n (q := 75) (i := 1) dJ6_numberOfTrailingZeros_0f7a4_74 rfl rfl rfl ?_
            refine ax_iload_n (q := 76) (i := 0) dJ6_numberOfTrailingZeros_0f7a4_75 rfl rfl rfl ?_
            refine ax_iconst (q := 77) dJ6_numberOfTrailingZeros_0f7a4_76 rfl ki_1 ?_
            refine ax_iushr (q := 78) dJ6_numberOfTrailingZeros_0f7a4_77 rfl ?_
            refine ax_iadd (q := 79) dJ6_numberOfTrailingZeros_0f7a4_78 rfl ?_
            exact ax_iret dJ6_numberOfTrailingZeros_0f7a4_79 rfl rfl (k5 c1 c2 c3 c7 c8)
          · refine ax_iincK (q := 70) (lv2 := [some (ax_i (((((a0 ^^^ (-1 : Int32)) &&& (a0 - (1 : Int32)))).toUInt32 >>> (((8 : Int32)).toUInt32 &&& Int32.toUInt32 31)).toInt32)), some (ax_i (((1 : Int32) + (8 : Int32)) + (2 : Int32)))]) dJ6_numberOfTrailingZeros_0f7a4_67 rfl rfl ki_2 (by decide) rfl rfl ?_
            refine ax_iload_n (q := 71) (i := 0) dJ6_numberOfTrailingZeros_0f7a4_70 rfl rfl rfl ?_
            refine ax_iconst (q := 72) dJ6_numberOfTrailingZeros_0f7a4_71 rfl ki_2 ?_
            refine ax_iushr (q := 73) dJ6_numberOfTrailingZeros_0f7a4_72 rfl ?_
            refine ax_istore_n (q := 74) (i := 0) (lv2 := [some (ax_i ((((((((a0 ^^^ (-1 : Int32)) &&& (a0 - (1 : Int32)))).toUInt32 >>> (((8 : Int32)).toUInt32 &&& Int32.toUInt32 31)).toInt32)).toUInt32 >>> (((2 : Int32)).toUInt32 &&& Int32.toUInt32 31)).toInt32)), some (ax_i (((1 : Int32) + (8 : Int32)) + (2 : Int32)))]) dJ6_numberOfTrailingZeros_0f7a4_73 rfl rfl (by decide) rfl rfl ?_
            refine ax_iload_n (q := 75) (i := 1) dJ6_numberOfTrailingZeros_0f7a4_74 rfl rfl rfl ?_
            refine ax_iload_n (q := 76) (i := 0) dJ6_numberOfTrailingZeros_0f7a4_75 rfl rfl rfl ?_
            refine ax_iconst (q := 77) dJ6_numberOfTrailingZeros_0f7a4_76 rfl ki_1 ?_
            refine ax_iushr (q := 78) dJ6_numberOfTrailingZeros_0f7a4_77 rfl ?_
            refine ax_iadd (q := 79) dJ6_numberOfTrailingZeros_0f7a4_78 rfl ?_
            exact ax_iret dJ6_numberOfTrailingZeros_0f7a4_79 rfl rfl (k6 c1 c2 c3 c7 c8)
        · refine ax_iincK (q := 58) (lv2 := [some (ax_i (((((a0 ^^^ (-1 : Int32)) &&& (a0 - (1 : Int32)))).toUInt32 >>> (((8 : Int32)).toUInt32 &&& Int32.toUInt32 31)).toInt32)), some (ax_i (((1 : Int32) + (8 : Int32)) + (4 : Int32)))]) dJ6_numberOfTrailingZeros_0f7a4_55 rfl rfl ki_4 (by decide) rfl rfl ?_
          refine ax_iload_n (q := 59) (i := 0) dJ6_numberOfTrailingZeros_0f7a4_58 rfl rfl rfl ?_
          refine ax_iconst (q := 60) dJ6_numberOfTrailingZeros_0f7a4_59 rfl ki_4 ?_
          refine ax_iushr (q := 61) dJ6_numberOfTrailingZeros_0f7a4_60 rfl ?_
          refine ax_istore_n (q := 62) (i := 0) (lv2 := [some (ax_i ((((((((a0 ^^^ (-1 : Int32)) &&& (a0 - (1 : Int32)))).toUInt32 >>> (((8 : Int32)).toUInt32 &&& Int32.toUInt32 31)).toInt32)).toUInt32 >>> (((4 : Int32)).toUInt32 &&& Int32.toUInt32 31)).toInt32)), some (ax_i (((1 : Int32) + (8 : Int32)) + (4 : Int32)))]) dJ6_numberOfTrailingZeros_0f7a4_61 rfl rfl (by decide) rfl rfl ?_
          refine ax_iload_n (q := 63) (i := 0) dJ6_numberOfTrailingZeros_0f7a4_62 rfl rfl rfl ?_
          refine ax_iconst (q := 64) dJ6_numberOfTrailingZeros_0f7a4_63 rfl ki_4 ?_
          refine ax_icmp_le (tgt := 74) (q := 67) dJ6_numberOfTrailingZeros_0f7a4_64 (by decide) rfl (fun c9 => ?_) (fun c9 => ?_)
          · refine ax_iload_n (q := 75) (i := 1) dJ6_numberOfTrailingZeros_0f7a4_74 rfl rfl rfl ?_
            refine ax_iload_n (q := 76) (i := 0) dJ6_numberOfTrailingZeros_0f7a4_75 rfl rfl rfl ?_
            refine ax_iconst (q := 77) dJ6_numberOfTrailingZeros_0f7a4_76 rfl ki_1 ?_
            refine ax_iushr (q := 78) dJ6_numberOfTrailingZeros_0f7a4_77 rfl ?_
            refine ax_iadd (q := 79) dJ6_numberOfTrailingZeros_0f7a4_78 rfl ?_
            exact ax_iret dJ6_numberOfTrailingZeros_0f7a4_79 rfl rfl (k7 c1 c2 c3 c7 c9)
          · refine ax_iincK (q := 70) (lv2 := [some (ax_i ((((((((a0 ^^^ (-1 : Int32)) &&& (a0 - (1 : Int32)))).toUInt32 >>> (((8 : Int32)).toUInt32 &&& Int32.toUInt32 31)).toInt32)).toUInt32 >>> (((4 : Int32)).toUInt32 &&& Int32.toUInt32 31)).toInt32)), some (ax_i ((((1 : Int32) + (8 : Int32)) + (4 : Int32)) + (2 : Int32)))]) dJ6_numberOfTrailingZeros_0f7a4_67 rfl rfl ki_2 (by decide) rfl rfl ?_
            refine ax_iload_n (q := 71) (i := 0) dJ6_numberOfTrailingZeros_0f7a4_70 rfl rfl rfl ?_
            refine ax_iconst (q := 72) dJ6_numberOfTrailingZeros_0f7a4_71 rfl ki_2 ?_
            refine ax_iushr (q := 73) dJ6_numberOfTrailingZeros_0f7a4_72 rfl ?_
            refine ax_istore_n (q := 74) (i := 0) (lv2 := [some (ax_i (((((((((((a0 ^^^ (-1 : Int32)) &&& (a0 - (1 : Int32)))).toUInt32 >>> (((8 : Int32)).toUInt32 &&& Int32.toUInt32 31)).toInt32)).toUInt32 >>> (((4 : Int32)).toUInt32 &&& Int32.toUInt32 31)).toInt32)).toUInt32 >>> (((2 : Int32)).toUInt32 &&& Int32.toUInt32 31)).toInt32)), some (ax_i ((((1 : Int32) + (8 : Int32)) + (4 : Int32)) + (2 : Int32)))]) dJ6_numberOfTrailingZeros_0f7a4_73 rfl rfl (by decide) rfl rfl ?_
            refine ax_iload_n (q := 75) (i := 1) dJ6_numberOfTrailingZeros_0f7a4_74 rfl rfl rfl ?_
            refine ax_iload_n (q := 76) (i := 0) dJ6_numberOfTrailingZeros_0f7a4_75 rfl rfl rfl ?_
            refine ax_iconst (q := 77) dJ6_numberOfTrailingZeros_0f7a4_76 rfl ki_1 ?_
            refine ax_iushr (q := 78) dJ6_numberOfTrailingZeros_0f7a4_77 rfl ?_
            refine ax_iadd (q := 79) dJ6_numberOfTrailingZeros_0f7a4_78 rfl ?_
            exact ax_iret dJ6_numberOfTrailingZeros_0f7a4_79 rfl rfl (k8 c1 c2 c3 c7 c9)
    · refine ax_iincK (q := 29) (lv2 := [some (ax_i ((a0 ^^^ (-1 : Int32)) &&& (a0 - (1 : Int32)))), some (ax_i ((1 : Int32) + (16 : Int32)))]) dJ6_numberOfTrailingZeros_0f7a4_26 rfl rfl ki_16 (by decide) rfl rfl ?_
      refine ax_iload_n (q := 30) (i := 0) dJ6_numberOfTrailingZeros_0f7a4_29 rfl rfl rfl ?_
      refine ax_bipush (q := 32) dJ6_numberOfTrailingZeros_0f7a4_30 rfl kb_16 ?_
      refine ax_iushr (q := 33) dJ6_numberOfTrailingZeros_0f7a4_32 rfl ?_
      refine ax_istore_n (q := 34) (i := 0) (lv2 := [some (ax_i (((((a0 ^^^ (-1 : Int32)) &&& (a0 - (1 : Int32)))).toUInt32 >>> (((16 : Int32)).toUInt32 &&& Int32.toUInt32 31)).toInt32)), some (ax_i ((1 : Int32) + (16 : Int32)))]) dJ6_numberOfTrailingZeros_0f7a4_33 rfl rfl (by decide) rfl rfl ?_
      refine ax_iload_n (q := 35) (i := 0) dJ6_numberOfTrailingZeros_0f7a4_34 rfl rfl rfl ?_
      refine ax_sipush (q := 38) dJ6_numberOfTrailingZeros_0f7a4_35 rfl ks_256 ?_
      refine ax_icmp_le (tgt := 49) (q := 41) dJ6_numberOfTrailingZeros_0f7a4_38 (by decide) rfl (fun c10 => ?_) (fun c10 => ?_)
      · refine ax_iload_n (q := 50) (i := 0) dJ6_numberOfTrailingZeros_0f7a4_49 rfl rfl rfl ?_
        refine ax_bipush (q := 52) dJ6_numberOfTrailingZeros_0f7a4_50 rfl kb_16 ?_
        refine ax_icmp_le (tgt := 62) (q := 55) dJ6_numberOfTrailingZeros_0f7a4_52 (by decide) rfl (fun c11 => ?_) (fun c11 => ?_)
        · refine ax_iload_n (q := 63) (i := 0) dJ6_numberOfTrailingZeros_0f7a4_62 rfl rfl rfl ?_
          refine ax_iconst (q := 64) dJ6_numberOfTrailingZeros_0f7a4_63 rfl ki_4 ?_
          refine ax_icmp_le (tgt := 74) (q := 67) dJ6_numberOfTrailingZeros_0f7a4_64 (by decide) rfl (fun c12 => ?_) (fun c12 => ?_)
          · refine ax_iload_n (q := 75) (i := 1) dJ6_numberOfTrailingZeros_0f7a4_74 rfl rfl rfl ?_
            refine ax_iload_n (q := 76) (i := 0) dJ6_numberOfTrailingZeros_0f7a4_75 rfl rfl rfl ?_
            refine ax_iconst (q := 77) dJ6_numberOfTrailingZeros_0f7a4_76 rfl ki_1 ?_
            refine ax_iushr (q := 78) dJ6_numberOfTrailingZeros_0f7a4_77 rfl ?_
            refine ax_iadd (q := 79) dJ6_numberOfTrailingZeros_0f7a4_78 rfl ?_
            exact ax_iret dJ6_numberOfTrailingZeros_0f7a4_79 rfl rfl (k9 c1 c2 c10 c11 c12)
          · refine ax_iincK (q := 70) (lv2 := [some (ax_i (((((a0 ^^^ (-1 : Int32)) &&& (a0 - (1 : Int32)))).toUInt32 >>> (((16 : Int32)).toUInt32 &&& Int32.toUInt32 31)).toInt32)), some (ax_i (((1 : Int32) + (16 : Int32)) + (2 : Int32)))]) dJ6_numberOfTrailingZeros_0f7a4_67 rfl rfl ki_2 (by decide) rfl rfl ?_
            refine ax_iload_n (q := 71) (i := 0) dJ6_numberOfTrailingZeros_0f7a4_70 rfl rfl rfl ?_
            refine ax_iconst (q := 72) dJ6_numberOfTrailingZeros_0f7a4_71 rfl ki_2 ?_
            refine ax_iushr (q := 73) dJ6_numberOfTrailingZeros_0f7a4_72 rfl ?_
            refine ax_istore_n (q := 74) (i := 0) (lv2 := [some (ax_i ((((((((a0 ^^^ (-1 : Int32)) &&& (a0 - (1 : Int32)))).toUInt32 >>> (((16 : Int32)).toUInt32 &&& Int32.toUInt32 31)).toInt32)).toUInt32 >>> (((2 : Int32)).toUInt32 &&& Int32.toUInt32 31)).toInt32)), some (ax_i (((1 : Int32) + (16 : Int32)) + (2 : Int32)))]) dJ6_numberOfTrailingZeros_0f7a4_73 rfl rfl (by decide) rfl rfl ?_
            refine ax_iload_n (q := 75) (i := 1) dJ6_numberOfTrailingZeros_0f7a4_74 rfl rfl rfl ?_
            refine ax_iload_n (q := 76) (i := 0) dJ6_numberOfTrailingZeros_0f7a4_75 rfl rfl rfl ?_
            refine ax_iconst (q := 77) dJ6_numberOfTrailingZeros_0f7a4_76 rfl ki_1 ?_
            refine ax_iushr (q := 78) dJ6_numberOfTrailingZeros_0f7a4_77 rfl ?_
            refine ax_iadd (q := 79) dJ6_numberOfTrailingZeros_0f7a4_78 rfl ?_
            exact ax_iret dJ6_numberOfTrailingZeros_0f7a4_79 rfl rfl (k10 c1 c2 c10 c11 c12)
        · refine ax_iincK (q := 58) (lv2 := [some (ax_i (((((a0 ^^^ (-1 : Int32)) &&& (a0 - (1 : Int32)))).toUInt32 >>> (((16 : Int32)).toUInt32 &&& Int32.toUInt32 31)).toInt32)), some (ax_i (((1 : Int32) + (16 : Int32)) + (4 : Int32)))]) dJ6_numberOfTrailingZeros_0f7a4_55 rfl rfl ki_4 (by decide) rfl rfl ?_
          refine ax_iload_n (q := 59) (i := 0) dJ6_numberOfTrailingZeros_0f7a4_58 rfl rfl rfl ?_
          refine ax_iconst (q := 60) dJ6_numberOfTrailingZeros_0f7a4_59 rfl ki_4 ?_
          refine ax_iushr (q := 61) dJ6_numberOfTrailingZeros_0f7a4_60 rfl ?_
          refine ax_istore_n (q := 62) (i := 0) (lv2 := [some (ax_i ((((((((a0 ^^^ (-1 : Int32)) &&& (a0 - (1 : Int32)))).toUInt32 >>> (((16 : Int32)).toUInt32 &&& Int32.toUInt32 31)).toInt32)).toUInt32 >>> (((4 : Int32)).toUInt32 &&& Int32.toUInt32 31)).toInt32)), some (ax_i (((1 : Int32) + (16 : Int32)) + (4 : Int32)))]) dJ6_numberOfTrailingZeros_0f7a4_61 rfl rfl (by decide) rfl rfl ?_
          refine ax_iload_n (q := 63) (i := 0) dJ6_numberOfTrailingZeros_0f7a4_62 rfl rfl rfl ?_
          refine ax_iconst (q := 64) dJ6_numberOfTrailingZeros_0f7a4_63 rfl ki_4 ?_
          refine ax_icmp_le (tgt := 74) (q := 67) dJ6_numberOfTrailingZeros_0f7a4_64 (by decide) rfl (fun c13 => ?_) (fun c13 => ?_)
          · refine ax_iload_n (q := 75) (i := 1) dJ6_numberOfTrailingZeros_0f7a4_74 rfl rfl rfl ?_
            refine ax_iload_n (q := 76) (i := 0) dJ6_numberOfTrailingZeros_0f7a4_75 rfl rfl rfl ?_
            refine ax_iconst (q := 77) dJ6_numberOfTrailingZeros_0f7a4_76 rfl ki_1 ?_
            refine ax_iushr (q := 78) dJ6_numberOfTrailingZeros_0f7a4_77 rfl ?_
            refine ax_iadd (q := 79) dJ6_numberOfTrailingZeros_0f7a4_78 rfl ?_
            exact ax_iret dJ6_numberOfTrailingZeros_0f7a4_79 rfl rfl (k11 c1 c2 c10 c11 c13)
          · refine ax_iincK (q := 70) (lv2 := [some (ax_i ((((((((a0 ^^^ (-1 : Int32)) &&& (a0 - (1 : Int32)))).toUInt32 >>> (((16 : Int32)).toUInt32 &&& Int32.toUInt32 31)).toInt32)).toUInt32 >>> (((4 : Int32)).toUInt32 &&& Int32.toUInt32 31)).toInt32)), some (ax_i ((((1 : Int32) + (16 : Int32)) + (4 : Int32)) + (2 : Int32)))]) dJ6_numberOfTrailingZeros_0f7a4_67 rfl rfl ki_2 (by decide) rfl rfl ?_
            refine ax_iload_n (q := 71) (i := 0) dJ6_numberOfTrailingZeros_0f7a4_70 rfl rfl rfl ?_
            refine ax_iconst (q := 72) dJ6_numberOfTrailingZeros_0f7a4_71 rfl ki_2 ?_
            refine ax_iushr (q := 73) dJ6_numberOfTrailingZeros_0f7a4_72 rfl ?_
            refine ax_istore_n (q := 74) (i := 0) (lv2 := [some (ax_i (((((((((((a0 ^^^ (-1 : Int32)) &&& (a0 - (1 : Int32)))).toUInt32 >>> (((16 : Int32)).toUInt32 &&& Int32.toUInt32 31)).toInt32)).toUInt32 >>> (((4 : Int32)).toUInt32 &&& Int32.toUInt32 31)).toInt32)).toUInt32 >>> (((2 : Int32)).toUInt32 &&& Int32.toUInt32 31)).toInt32)), some (ax_i ((((1 : Int32) + (16 : Int32)) + (4 : Int32)) + (2 : Int32)))]) dJ6_numberOfTrailingZeros_0f7a4_73 rfl rfl (by decide) rfl rfl ?_
            refine ax_iload_n (q := 75) (i := 1) dJ6_numberOfTrailingZeros_0f7a4_74 rfl rfl rfl ?_
            refine ax_iload_n (q := 76) (i := 0) dJ6_numberOfTrailingZeros_0f7a4_75 rfl rfl rfl ?_
            refine ax_iconst (q := 77) dJ6_numberOfTrailingZeros_0f7a4_76 rfl ki_1 ?_
            refine ax_iushr (q := 78) dJ6_numberOfTrailingZeros_0f7a4_77 rfl ?_
            refine ax_iadd (q := 79) dJ6_numberOfTrailingZeros_0f7a4_78 rfl ?_
            exact ax_iret dJ6_numberOfTrailingZeros_0f7a4_79 rfl rfl (k12 c1 c2 c10 c11 c13)
      · refine ax_iincK (q := 44) (lv2 := [some (ax_i (((((a0 ^^^ (-1 : Int32)) &&& (a0 - (1 : Int32)))).toUInt32 >>> (((16 : Int32)).toUInt32 &&& Int32.toUInt32 31)).toInt32)), some (ax_i (((1 : Int32) + (16 : Int32)) + (8 : Int32)))]) dJ6_numberOfTrailingZeros_0f7a4_41 rfl rfl ki_8 (by decide) rfl rfl ?_
        refine ax_iload_n (q := 45) (i := 0) dJ6_numberOfTrailingZeros_0f7a4_44 rfl rfl rfl ?_
        refine ax_bipush (q := 47) dJ6_numberOfTrailingZeros_0f7a4_45 rfl kb_8 ?_
        refine ax_iushr (q := 48) dJ6_numberOfTrailingZeros_0f7a4_47 rfl ?_
        refine ax_istore_n (q := 49) (i := 0) (lv2 := [some (ax_i ((((((((a0 ^^^ (-1 : Int32)) &&& (a0 - (1 : Int32)))).toUInt32 >>> (((16 : Int32)).toUInt32 &&& Int32.toUInt32 31)).toInt32)).toUInt32 >>> (((8 : Int32)).toUInt32 &&& Int32.toUInt32 31)).toInt32)), some (ax_i (((1 : Int32) + (16 : Int32)) + (8 : Int32)))]) dJ6_numberOfTrailingZeros_0f7a4_48 rfl rfl (by decide) rfl rfl ?_
        refine ax_iload_n (q := 50) (i := 0) dJ6_numberOfTrailingZeros_0f7a4_49 rfl rfl rfl ?_
        refine ax_bipush (q := 52) dJ6_numberOfTrailingZeros_0f7a4_50 rfl kb_16 ?_
        refine ax_icmp_le (tgt := 62) (q := 55) dJ6_numberOfTrailingZeros_0f7a4_52 (by decide) rfl (fun c14 => ?_) (fun c14 => ?_)
        · refine ax_iload_n (q := 63) (i := 0) dJ6_numberOfTrailingZeros_0f7a4_62 rfl rfl rfl ?_
          refine ax_iconst (q := 64) dJ6_numberOfTrailingZeros_0f7a4_63 rfl ki_4 ?_
          refine ax_icmp_le (tgt := 74) (q := 67) dJ6_numberOfTrailingZeros_0f7a4_64 (by decide) rfl (fun c15 => ?_) (fun c15 => ?_)
          · refine ax_iload_n (q := 75) (i := 1) dJ6_numberOfTrailingZeros_0f7a4_74 rfl rfl rfl ?_
            refine ax_iload_n (q := 76) (i := 0) dJ6_numberOfTrailingZeros_0f7a4_75 rfl rfl rfl ?_
            refine ax_iconst (q := 77) dJ6_numberOfTrailingZeros_0f7a4_76 rfl ki_1 ?_
            refine ax_iushr (q := 78) dJ6_numberOfTrailingZeros_0f7a4_77 rfl ?_
            refine ax_iadd (q := 79) dJ6_numberOfTrailingZeros_0f7a4_78 rfl ?_
            exact ax_iret dJ6_numberOfTrailingZeros_0f7a4_79 rfl rfl (k13 c1 c2 c10 c14 c15)
          · refine ax_iincK (q := 70) (lv2 := [some (ax_i ((((((((a0 ^^^ (-1 : Int32)) &&& (a0 - (1 : Int32)))).toUInt32 >>> (((16 : Int32)).toUInt32 &&& Int32.toUInt32 31)).toInt32)).toUInt32 >>> (((8 : Int32)).toUInt32 &&& Int32.toUInt32 31)).toInt32)), some (ax_i ((((1 : Int32) + (16 : Int32)) + (8 : Int32)) + (2 : Int32)))]) dJ6_numberOfTrailingZeros_0f7a4_67 rfl rfl ki_2 (by decide) rfl rfl ?_
            refine ax_iload_n (q := 71) (i := 0) dJ6_numberOfTrailingZeros_0f7a4_70 rfl rfl rfl ?_
            refine ax_iconst (q := 72) dJ6_numberOfTrailingZeros_0f7a4_71 rfl ki_2 ?_
            refine ax_iushr (q := 73) dJ6_numberOfTrailingZeros_0f7a4_72 rfl ?_
            refine ax_istore_n (q := 74) (i := 0) (lv2 := [some (ax_i (((((((((((a0 ^^^ (-1 : Int32)) &&& (a0 - (1 : Int32)))).toUInt32 >>> (((16 : Int32)).toUInt32 &&& Int32.toUInt32 31)).toInt32)).toUInt32 >>> (((8 : Int32)).toUInt32 &&& Int32.toUInt32 31)).toInt32)).toUInt32 >>> (((2 : Int32)).toUInt32 &&& Int32.toUInt32 31)).toInt32)), some (ax_i ((((1 : Int32) + (16 : Int32)) + (8 : Int32)) + (2 : Int32)))]) dJ6_numberOfTrailingZeros_0f7a4_73 rfl rfl (by decide) rfl rfl ?_
            refine ax_iload_n (q := 75) (i := 1) dJ6_numberOfTrailingZeros_0f7a4_74 rfl rfl rfl ?_
            refine ax_iload_n (q := 76) (i := 0) dJ6_numberOfTrailingZeros_0f7a4_75 rfl rfl rfl ?_
            refine ax_iconst (q := 77) dJ6_numberOfTrailingZeros_0f7a4_76 rfl ki_1 ?_
            refine ax_iushr (q := 78) dJ6_numberOfTrailingZeros_0f7a4_77 rfl ?_
            refine ax_iadd (q := 79) dJ6_numberOfTrailingZeros_0f7a4_78 rfl ?_
            exact ax_iret dJ6_numberOfTrailingZeros_0f7a4_79 rfl rfl (k14 c1 c2 c10 c14 c15)
        · refine ax_iincK (q := 58) (lv2 := [some (ax_i ((((((((a0 ^^^ (-1 : Int32)) &&& (a0 - (1 : Int32)))).toUInt32 >>> (((16 : Int32)).toUInt32 &&& Int32.toUInt32 31)).toInt32)).toUInt32 >>> (((8 : Int32)).toUInt32 &&& Int32.toUInt32 31)).toInt32)), some (ax_i ((((1 : Int32) + (16 : Int32)) + (8 : Int32)) + (4 : Int32)))]) dJ6_numberOfTrailingZeros_0f7a4_55 rfl rfl ki_4 (by decide) rfl rfl ?_
          refine ax_iload_n (q := 59) (i := 0) dJ6_numberOfTrailingZeros_0f7a4_58 rfl rfl rfl ?_
          refine ax_iconst (q := 60) dJ6_numberOfTrailingZeros_0f7a4_59 rfl ki_4 ?_
          refine ax_iushr (q := 61) dJ6_numberOfTrailingZeros_0f7a4_60 rfl ?_
          refine ax_istore_n (q := 62) (i := 0) (lv2 := [some (ax_i (((((((((((a0 ^^^ (-1 : Int32)) &&& (a0 - (1 : Int32)))).toUInt32 >>> (((16 : Int32)).toUInt32 &&& Int32.toUInt32 31)).toInt32)).toUInt32 >>> (((8 : Int32)).toUInt32 &&& Int32.toUInt32 31)).toInt32)).toUInt32 >>> (((4 : Int32)).toUInt32 &&& Int32.toUInt32 31)).toInt32)), some (ax_i ((((1 : Int32) + (16 : Int32)) + (8 : Int32)) + (4 : Int32)))]) dJ6_numberOfTrailingZeros_0f7a4_61 rfl rfl (by decide) rfl rfl ?_
          refine ax_iload_n (q := 63) (i := 0) dJ6_numberOfTrailingZeros_0f7a4_62 rfl rfl rfl ?_
          refine ax_iconst (q := 64) dJ6_numberOfTrailingZeros_0f7a4_63 rfl ki_4 ?_
          refine ax_icmp_le (tgt := 74) (q := 67) dJ6_numberOfTrailingZeros_0f7a4_64 (by decide) rfl (fun c16 => ?_) (fun c16 => ?_)
          · refine ax_iload_n (q := 75) (i := 1) dJ6_numberOfTrailingZeros_0f7a4_74 rfl rfl rfl ?_
            refine ax_iload_n (q := 76) (i := 0) dJ6_numberOfTrailingZeros_0f7a4_75 rfl rfl rfl ?_
            refine ax_iconst (q := 77) dJ6_numberOfTrailingZeros_0f7a4_76 rfl ki_1 ?_
            refine ax_iushr (q := 78) dJ6_numberOfTrailingZeros_0f7a4_77 rfl ?_
            refine ax_iadd (q := 79) dJ6_numberOfTrailingZeros_0f7a4_78 rfl ?_
            exact ax_iret dJ6_numberOfTrailingZeros_0f7a4_79 rfl rfl (k15 c1 c2 c10 c14 c16)
          · refine ax_iincK (q := 70) (lv2 := [some (ax_i (((((((((((a0 ^^^ (-1 : Int32)) &&& (a0 - (1 : Int32)))).toUInt32 >>> (((16 : Int32)).toUInt32 &&& Int32.toUInt32 31)).toInt32)).toUInt32 >>> (((8 : Int32)).toUInt32 &&& Int32.toUInt32 31)).toInt32)).toUInt32 >>> (((4 : Int32)).toUInt32 &&& Int32.toUInt32 31)).toInt32)), some (ax_i (((((1 : Int32) + (16 : Int32)) + (8 : Int32)) + (4 : Int32)) + (2 : Int32)))]) dJ6_numberOfTrailingZeros_0f7a4_67 rfl rfl ki_2 (by decide) rfl rfl ?_
            refine ax_iload_n (q := 71) (i := 0) dJ6_numberOfTrailingZeros_0f7a4_70 rfl rfl rfl ?_
            refine ax_iconst (q := 72) dJ6_numberOfTrailingZeros_0f7a4_71 rfl ki_2 ?_
            refine ax_iushr (q := 73) dJ6_numberOfTrailingZeros_0f7a4_72 rfl ?_
            refine ax_istore_n (q := 74) (i := 0) (lv2 := [some (ax_i ((((((((((((((a0 ^^^ (-1 : Int32)) &&& (a0 - (1 : Int32)))).toUInt32 >>> (((16 : Int32)).toUInt32 &&& Int32.toUInt32 31)).toInt32)).toUInt32 >>> (((8 : Int32)).toUInt32 &&& Int32.toUInt32 31)).toInt32)).toUInt32 >>> (((4 : Int32)).toUInt32 &&& Int32.toUInt32 31)).toInt32)).toUInt32 >>> (((2 : Int32)).toUInt32 &&& Int32.toUInt32 31)).toInt32)), some (ax_i (((((1 : Int32) + (16 : Int32)) + (8 : Int32)) + (4 : Int32)) + (2 : Int32)))]) dJ6_numberOfTrailingZeros_0f7a4_73 rfl rfl (by decide) rfl rfl ?_
            refine ax_iload_n (q := 75) (i := 1) dJ6_numberOfTrailingZeros_0f7a4_74 rfl rfl rfl ?_
            refine ax_iload_n (q := 76) (i := 0) dJ6_numberOfTrailingZeros_0f7a4_75 rfl rfl rfl ?_
            refine ax_iconst (q := 77) dJ6_numberOfTrailingZeros_0f7a4_76 rfl ki_1 ?_
            refine ax_iushr (q := 78) dJ6_numberOfTrailingZeros_0f7a4_77 rfl ?_
            refine ax_iadd (q := 79) dJ6_numberOfTrailingZeros_0f7a4_78 rfl ?_
            exact ax_iret dJ6_numberOfTrailingZeros_0f7a4_79 rfl rfl (k16 c1 c2 c10 c14 c16)
  · refine ax_iload_n (q := 13) (i := 0) dJ6_numberOfTrailingZeros_0f7a4_12 rfl rfl rfl ?_
    refine ax_bipush (q := 15) dJ6_numberOfTrailingZeros_0f7a4_13 rfl kb_32 ?_
    refine ax_iand (q := 16) dJ6_numberOfTrailingZeros_0f7a4_15 rfl ?_
    exact ax_iret dJ6_numberOfTrailingZeros_0f7a4_16 rfl rfl (k17 c1)
theorem ct_ntz {d : Nat} (hd : 1 ≤ d) {σ : ax_S} {k : Nat} (hk : k < 256) (h0 : k ≠ 0) :
    ax_Ct shM d mJ6_numberOfTrailingZeros_0f7a4 [ax_i (nI k)] (fun r u => (∃ m, m < 8 ∧ r = some (ax_i (nI m)) ∧ k.testBit m = true ∧ ∀ i, i < m → k.testBit i = false) ∧ u = σ) σ := by
  obtain ⟨d, rfl⟩ : ∃ e, d = e + 1 := ⟨d - 1, by omega⟩
  obtain ⟨m, hm, e, h1, h2⟩ := nz_tab k hk h0
  refine ax_Ct.of (lv := [some (ax_i (nI k)), none]) (by decide +kernel) (fun ad => Nat.le_of_ble_eq_true rfl) (fun ad => rfl) ?_
  have e2 : m = 0 ∨ m = 1 ∨ m = 2 ∨ m = 3 ∨ m = 4 ∨ m = 5 ∨ m = 6 ∨ m = 7 := by omega
  refine s_ntzM_0 (by omega) σ _ ?_ ?_ ?_ ?_ ?_ ?_ ?_ ?_ ?_ ?_ ?_ ?_ ?_ ?_ ?_ ?_ ?_
  all_goals rw [e]
  all_goals intros
  all_goals refine ⟨⟨m, hm, ?_, h1, h2⟩, rfl⟩
  all_goals (rcases e2 with rfl | rfl | rfl | rfl | rfl | rfl | rfl | rfl)
  all_goals first | contradiction | rfl | decide
theorem i_assoc (x y z : Int32) : x - (y - z) = x - y + z := by
  apply Int32.toBitVec_inj.mp
  rw [Int32.toBitVec_sub, Int32.toBitVec_sub, Int32.toBitVec_add, Int32.toBitVec_sub]
  apply BitVec.eq_of_toNat_eq
  rw [BitVec.toNat_sub, BitVec.toNat_sub, BitVec.toNat_add, BitVec.toNat_sub]
  have h1 := x.toBitVec.isLt
  have h2 := y.toBitVec.isLt
  have h3 := z.toBitVec.isLt
  omega
def rgp (D : Nat → Nat) (h : Nat) : Bool := decide (fb_ct (twn D (bk_lv D) h) h = 0)
def brp (D : Nat → Nat) (w : Nat) : Bool := bk_lv D w && !twn D (fun k => bk_lv D k && !decide (k = w)) (bk_w D w 0) (bk_w D w 1)
theorem twn_self {D : Nat → Nat} {lv : Nat → Bool} {h : Nat} : twn D lv h h = true := rpN_up (decide_eq_true rfl) 8
theorem low_C {n h : Nat} {f : Nat → Bool} (hn : n ≤ 8) (hh : h < n) : (pn_set n f &&& (((1 : Int32) <<< (nI h &&& 31)) - 1)) = 0 ↔ fb_ct f h = 0 := by
  rw [fb_ct_zero]
  constructor
  · intro q k hk
    have e : bt (pn_set n f &&& (((1 : Int32) <<< (nI h &&& 31)) - 1)) k = false := by rw [q, b_0]
    rw [b_and, pn_set_bt f n (by omega) k (by omega), pn_full h (by omega) k (by omega), decide_eq_true hk, Bool.and_true, decide_eq_true (by omega), Bool.true_and] at e
    exact e
  · intro q
    refine b_ext fun i hi => ?_
    rw [b_and, pn_set_bt f n (by omega) i hi, pn_full h (by omega) i hi, b_0]
    by_cases z : i < h
    · rw [q i z]; simp
    · rw [decide_eq_false z]; simp
theorem ct_X11_rings {d : Nat} (hd : 3 ≤ d) {σ : ax_S} {n : Nat} {E D : Nat → Nat} {dry : Nat} (hb : bk_ok n E D dry) (hC : bk_C σ n E D dry) :
    ax_Ct shC d mX11_rings [ax_r 0] (fun r u => r = some (ax_i (v_J6_bitCount_0f7a4 (pn_set (D 84) (bk_lv D)) - (nI n - nI (fb_ct (rgp D) n)))) ∧ u = σ) σ := by
  obtain ⟨d, rfl⟩ : ∃ e, d = e + 1 := ⟨d - 1, by omega⟩
  have hn := hb.2.1
  have h84 := hb.2.2.2.1
  refine ax_Ct.of (lv := [some (ax_r 0), none, none, none]) (by decide +kernel) (fun ad => Nat.le_of_ble_eq_true rfl) (fun ad => rfl) ?_
  refine s_X11_rings_0 (by omega) σ ?_
  refine (ct_live (by omega) hb hC).mono ?_
  rintro r u ⟨rfl, rfl⟩
  refine ⟨_, rfl, s_X11_rings_7 (by omega) u _ ?_⟩
  have loop := lp_up (m := n) (P := fun k => ax_W shC (d + 1) mX11_rings (fun r t => r = some (ax_i (v_J6_bitCount_0f7a4 (pn_set (D 84) (bk_lv D)) - (nI n - nI (fb_ct (rgp D) n)))) ∧ t = u) 12 [some (ax_r 0), some (ax_i (pn_set (D 84) (bk_lv D))), some (ax_i (nI (fb_ct (rgp D) k))), some (ax_i (nI k))] [] u) ?_ ?_
  · exact loop 0 (Nat.zero_le _)
  · refine s_X11_rings_12 (by omega) u _ _ _ (fun _ => ⟨by rw [hC.1], rfl⟩) (fun c => absurd (by rw [hC.1]; exact (n_le n n).mpr (Nat.le_refl n)) c)
  · intro k hk ih
    refine s_X11_rings_12 (by omega) u _ _ _ (fun c => absurd (by rw [hC.1] at c; exact (n_le n k).mp c) (by omega)) (fun _ => ?_)
    refine (ct_X0_reach (by omega) hb hC (lv := bk_lv D) (fun w hw => by rw [lv_bt (by omega) w (by omega)]; unfold dk_lv; rw [decide_eq_true hw]; rfl) hk).mono ?_
    rintro r t ⟨rfl, rfl⟩
    have hl := low_C (f := twn D (bk_lv D) k) hn hk
    refine ⟨_, rfl, s_X11_rings_32 (by omega) t _ _ _ _ (fun c => ?_) (fun c => ?_)⟩
    · have : rgp D k = false := decide_eq_false (fun q => c (hl.mpr q))
      rw [fb_ct_succ, this, if_neg (by decide), Nat.add_zero] at ih
      rw [nI_1]; exact ih
    · have : rgp D k = true := decide_eq_true (hl.mp (Classical.not_not.mp c))
      rw [fb_ct_succ, this, if_pos rfl] at ih
      rw [nI_1, nI_1]; exact ih
theorem ct_X11_bridges {d : Nat} (hd : 3 ≤ d) {σ : ax_S} {n : Nat} {E D : Nat → Nat} {dry : Nat} (hb : bk_ok n E D dry) (hC : bk_C σ n E D dry) :
    ax_Ct shC d mX11_bridges [ax_r 0] (fun r u => r = some (ax_i (pn_set (D 84) (brp D))) ∧ u = σ) σ := by
  obtain ⟨d, rfl⟩ : ∃ e, d = e + 1 := ⟨d - 1, by omega⟩
  have hn := hb.2.1
  have h84 := hb.2.2.2.1
  refine ax_Ct.of (lv := [some (ax_r 0), none, none, none, none]) (by decide +kernel) (fun ad => Nat.le_of_ble_eq_true rfl) (fun ad => rfl) ?_
  refine s_X11_bridges_0 (by omega) σ ?_
  refine (ct_live (by omega) hb hC).mono ?_
  rintro r u ⟨rfl, rfl⟩
  refine ⟨_, rfl, s_X11_bridges_7 (by omega) u _ ?_⟩
  have loop := lp_up (m := D 84) (P := fun k => ax_W shC (d + 1) mX11_bridges (fun r t => r = some (ax_i (pn_set (D 84) (brp D))) ∧ t = u) 12 [some (ax_r 0), some (ax_i (pn_set (D 84) (bk_lv D))), some (ax_i (pn_set k (brp D))), some (ax_i (nI k)), none] [] u) ?_ ?_
  · exact loop 0 (Nat.zero_le _)
  · have gle : u.1 5 10 ≤ nI (D 84) := by rw [hC.2.1]; exact (n_le _ _).mpr (Nat.le_refl _)
    exact s_X11_bridges_12 (by omega) u _ _ _ (fun _ => ⟨rfl, rfl⟩) (fun c => absurd gle c) (fun c => absurd gle c) (fun c => absurd gle c)
  · intro k hk ih
    obtain ⟨a1, a2, -⟩ := hb.2.2.2.2.2.2.2.2 k hk
    obtain ⟨e1, e2, -⟩ := hC.2.2.2.2.2.2.1 k hk
    have gle : ¬ u.1 5 10 ≤ nI k := by rw [hC.2.1]; exact fun z => absurd ((n_le _ _).mp z) (by omega)
    have elv : dk_lv D k = bk_lv D k := by unfold dk_lv; rw [decide_eq_true hk, Bool.true_and]
    refine s_X11_bridges_12 (by omega) u _ _ _ (fun c => absurd c gle) (fun _ c => ?_) (fun _ _ => n_in _ _) (fun _ c => ?_)
    · have z : bk_lv D k = false := by
        have e : bt (pn_set (D 84) (bk_lv D) &&& (((1 : Int32) <<< (nI k &&& 31)) ^^^ (-1))) k = bt (pn_set (D 84) (bk_lv D)) k := by rw [c]
        rw [cut_bt h84 (by omega) k (by omega), lv_bt (by omega) k (by omega), elv] at e
        unfold oneP at e
        rw [decide_eq_true rfl] at e
        simpa using e
      rw [pn_set_no (by unfold brp; rw [z]; rfl)] at ih
      rw [nI_1]; exact ih
    · have z : bk_lv D k = true := by
        cases q : bk_lv D k
        · refine absurd (b_ext fun i hi => ?_) c
          rw [cut_bt h84 (by omega) i hi, lv_bt (by omega) i hi]
          unfold oneP
          by_cases y : i = k
          · rw [y, elv, q]; rfl
          · rw [decide_eq_false y]; simp
        · rfl
      rw [n_tn k, e1]
      refine (ct_X0_reach (by omega) hb hC (lv := fun w => bk_lv D w && !decide (w = k)) (fun w hw => by rw [cut_bt h84 (by omega) w (by omega)]; unfold dk_lv oneP; rw [decide_eq_true hw]; rfl) a1).mono ?_
      rintro r t ⟨rfl, rfl⟩
      have sb := pn_bitOf0 (pn_set n (twn D (fun w => bk_lv D w && !decide (w = k)) (bk_w D k 0))) (bk_w D k 1) (by omega)
      rw [pn_set_bt _ n (by omega) _ (by omega), decide_eq_true a2, Bool.true_and] at sb
      refine ⟨_, rfl, s_X11_bridges_56 (by omega) t _ _ _ _ (n_in _ _) (fun c2 => ?_) (fun c2 => ?_)⟩
      · rw [n_tn k, e2] at c2
        have y : twn D (fun w => bk_lv D w && !decide (w = k)) (bk_w D k 0) (bk_w D k 1) = true := by
          cases q : twn D (fun w => bk_lv D w && !decide (w = k)) (bk_w D k 0) (bk_w D k 1)
          · exact absurd (sb.mpr q) c2
          · rfl
        rw [pn_set_no (by unfold brp; rw [y]; simp)] at ih
        rw [nI_1]; exact ih
      · rw [n_tn k, e2] at c2
        have y := sb.mp (Classical.not_not.mp c2)
        rw [nI_1, pn_set_up (p := brp D) (by unfold brp; rw [y, z]; rfl)]
        exact ih
theorem good_net {j : Nat} {σ τ : ax_S} (h : RR j σ τ) (a0 : Int32) : good j mX11_net mX12_net [ax_i a0] σ τ := by
  obtain ⟨n, E, D, dry, kp, hb, hlg, hC, hM, hok, hK, hKm, -⟩ := h.stroke
  have hn := hb.2.1
  have h84 := hb.2.2.2.1
  have zC := hb_C hC.1 hn
  have zM := hb_M hM.1 hn
  by_cases g : ¬ n = 0 ∧ ∃ b : Bool, a0 = if b then 1 else 0
  · obtain ⟨hn0, w, rfl⟩ := g
    have q1 : ¬ σ.1 5 9 ≤ 0 := fun q => hn0 (zC.mp q)
    have q2 : ¬ τ.1 0 23 = 0 := fun q => hn0 (zM.mp q)
    have bw := (bit_C (if w then 1 else 0)).mpr ⟨w, rfl⟩
    have mw := (bit_M (if w then 1 else 0)).mpr ⟨w, rfl⟩
    refine good.ask h (if w then pn_set (D 84) (brp D) else v_J6_bitCount_0f7a4 (pn_set (D 84) (bk_lv D)) - (nI n - nI (fb_ct (rgp D) n))) ?_ ?_
    · refine ax_Ct.of (lv := [some (ax_r 0), some (ax_i (if w then 1 else 0))]) (by decide +kernel) (fun ad => Nat.le_of_ble_eq_true rfl) (fun ad => rfl) ?_
      refine s_X11_net_0 (d := 59) (by omega) σ _ (fun c => absurd q1 c) (fun _ _ c => ?_) (fun _ _ c => ?_) (fun _ c => absurd bw c)
      · cases w
        · exact absurd rfl c
        exact (ct_X11_bridges (by omega) hb hC).mono (fun r u hu => ⟨_, hu.1, s_X11_net_31 (by omega) u _ ⟨rfl, by rw [hu.2]; exact fo.rfl'⟩⟩)
      · cases w
        · exact (ct_X11_rings (by omega) hb hC).mono (fun r u hu => ⟨_, hu.1, s_X11_net_24 (by omega) u _ ⟨rfl, by rw [hu.2]; exact fo.rfl'⟩⟩)
        · exact absurd (show ¬ (1 : Int32) = 0 by decide) c
    · refine ax_Ct.of (lv := [some (ax_r 0), some (ax_i (if w then 1 else 0)), none, none, none]) (by decide +kernel) (fun ad => Nat.le_of_ble_eq_true rfl) (fun ad => rfl) ?_
      refine s_X12_net_0 (d := 59) (by omega) τ _ (fun c => absurd c q2) (fun _ _ => ?_) (fun _ c => absurd mw c)
      have hm := hM.2.2.1
      have e84 : τ.1 15 84 = nI (D 84) := hm 84 (by omega)
      have loop2 := lp_up (m := D 84) (P := fun k => ax_W shM (59 + 1) mX12_net (fun r t => r = some (ax_i (if w then pn_set (D 84) (brp D) else v_J6_bitCount_0f7a4 (pn_set (D 84) (bk_lv D)) - (nI n - nI (fb_ct (rgp D) n)))) ∧ fo scM t τ) 66 [some (ax_r 0), some (ax_i (if w then 1 else 0)), some (ax_i (nI (fb_ct (rgp D) n))), some (ax_i (pn_set k (brp D))), some (ax_i (nI k))] [] τ) ?_ ?_
      · have loop := lp_up (m := n) (P := fun k => ax_W shM (59 + 1) mX12_net (fun r t => r = some (ax_i (if w then pn_set (D 84) (brp D) else v_J6_bitCount_0f7a4 (pn_set (D 84) (bk_lv D)) - (nI n - nI (fb_ct (rgp D) n)))) ∧ fo scM t τ) 25 [some (ax_r 0), some (ax_i (if w then 1 else 0)), some (ax_i (nI (fb_ct (rgp D) k))), some (ax_i 0), some (ax_i (nI k))] [] τ) ?_ ?_
        · exact loop 0 (Nat.zero_le _)
        · exact s_X12_net_25 (by omega) τ _ _ _ _ (fun _ => loop2 0 (Nat.zero_le _)) (fun c => absurd (by rw [hM.1]; exact (n_le n n).mpr (Nat.le_refl n)) c)
        · intro k hk ih
          refine s_X12_net_25 (by omega) τ _ _ _ _ (fun c => absurd (by rw [hM.1] at c; exact (n_le n k).mp c) (by omega)) (fun _ => ?_)
          refine (ct_X12_townBut (by omega) hb hm hk (b := 99) (Or.inl rfl)).mono ?_
          rintro r u ⟨rfl, rfl⟩
          rw [twn_all h84]
          refine ⟨_, rfl, s_X12_net_42 (by omega) u _ _ _ _ _ ?_⟩
          have hz := bz_lt (twn D (bk_lv D) k) n
          have hz2 : bz (twn D (bk_lv D) k) n < 256 := Nat.lt_of_lt_of_le hz (Nat.le_trans (Nat.pow_le_pow_right (by decide) hn) (by decide))
          have tb : ∀ i, i < 8 → (bz (twn D (bk_lv D) k) n).testBit i = (decide (i < n) && twn D (bk_lv D) k i) := fun i hi => by
            have e := pn_set_bt (twn D (bk_lv D) k) n (by omega) i (by omega)
            rw [pn_bz _ n (by omega), bt_nI, decide_eq_true (by omega), Bool.true_and] at e
            exact e
          have hk8 := tb k (by omega)
          rw [twn_self, decide_eq_true hk] at hk8
          have hne : bz (twn D (bk_lv D) k) n ≠ 0 := fun q => by rw [q] at hk8; simp at hk8
          rw [pn_bz _ n (by omega)]
          refine (ct_ntz (by omega) hz2 hne).mono ?_
          rintro r u2 ⟨⟨m, hm8, rfl, m1, m2⟩, rfl⟩
          have hmn := m1
          rw [tb m hm8, Bool.and_eq_true, decide_eq_true_eq] at hmn
          have hiff : (nI m = nI k) ↔ rgp D k = true := by
            rw [n_eq m k]
            unfold rgp
            rw [decide_eq_true_eq, fb_ct_zero]
            constructor
            · intro q i hi
              have := m2 i (by omega)
              rw [tb i (by omega), decide_eq_true (by omega), Bool.true_and] at this
              exact this
            · intro q
              rcases Nat.lt_trichotomy m k with z | z | z
              · have := q m z; rw [hmn.2] at this; exact absurd this (by decide)
              · exact z
              · have := m2 k z; rw [hk8] at this; exact absurd this (by decide)
          refine ⟨_, rfl, s_X12_net_45 (by omega) u2 _ _ _ _ _ ?_⟩
          rw [nI_1]
          rw [fb_ct_succ] at ih
          cases y : rgp D k
          · have e0 : (if (¬ (¬ nI m = nI k)) then (1 : Int32) else 0) = 0 := if_neg (fun q => by have := hiff.mp (Classical.not_not.mp q); rw [y] at this; exact absurd this (by decide))
            rw [e0, show nI (fb_ct (rgp D) k) + (0 : Int32) = nI (fb_ct (rgp D) k) from n_add _ 0]
            rw [y] at ih
            exact ih
          · have e0 : (if (¬ (¬ nI m = nI k)) then (1 : Int32) else 0) = 1 := if_pos (not_not_intro (hiff.mpr y))
            rw [e0, nI_1]
            rw [y] at ih
            exact ih
      · have gle : τ.1 15 84 ≤ nI (D 84) := by rw [e84]; exact (n_le _ _).mpr (Nat.le_refl _)
        refine s_X12_net_66 (by omega) τ _ _ _ _ (fun _ c => ?_) (fun _ c => ?_) (fun c => absurd gle c) (fun c => absurd gle c) (fun c => absurd gle c) (fun c => absurd gle c) (fun c => absurd gle c)
        · cases w
          · exact absurd rfl c
          exact ⟨rfl, fo.rfl'⟩
        · cases w
          · refine (ct_X12_allLive (by omega) (by omega) (fun w hw => ⟨(hb.2.2.2.2.2.2.2.2 w hw).2.2.2.1, (hb.2.2.2.2.2.2.2.2 w hw).2.2.2.2⟩) hm).mono ?_
            rintro r u ⟨rfl, rfl⟩
            refine ⟨_, rfl, s_X12_net_138 (by omega) u _ _ ⟨?_, fo.rfl'⟩⟩
            rw [hM.1, i_assoc]; rfl
          · exact absurd (show ¬ (1 : Int32) = 0 by decide) c
      · intro k hk ih
        obtain ⟨a1, a2, a3, a4, a5⟩ := hb.2.2.2.2.2.2.2.2 k hk
        have gle : ¬ τ.1 15 84 ≤ nI k := by rw [e84]; exact fun z => absurd ((n_le _ _).mp z) (by omega)
        have i3 : (16 : Int32) + 4 * nI k + 3 = nI (16 + 4 * k + 3) := n_w k 3
        have i2 : (16 : Int32) + 4 * nI k + 2 = nI (16 + 4 * k + 2) := n_w k 2
        have i1 : (16 : Int32) + 4 * nI k + 1 = nI (16 + 4 * k + 1) := n_w k 1
        have i0 : (16 : Int32) + 4 * nI k + 0 = nI (16 + 4 * k + 0) := n_w k 0
        have t3 : Int32.toNatClampNeg (nI (16 + 4 * k + 3)) = 16 + 4 * k + 3 := n_tn _
        have t2 : Int32.toNatClampNeg (nI (16 + 4 * k + 2)) = 16 + 4 * k + 2 := n_tn _
        have t1 : Int32.toNatClampNeg (nI (16 + 4 * k + 1)) = 16 + 4 * k + 1 := n_tn _
        have t0 : Int32.toNatClampNeg (nI (16 + 4 * k + 0)) = 16 + 4 * k + 0 := n_tn _
        have w3 : τ.1 15 (16 + 4 * k + 3) = nI (bk_w D k 3) := hm _ (by omega)
        have w2 : τ.1 15 (16 + 4 * k + 2) = nI (bk_w D k 2) := hm _ (by omega)
        have w1 : τ.1 15 (16 + 4 * k + 1) = nI (bk_w D k 1) := hm _ (by omega)
        have w0 : τ.1 15 (16 + 4 * k + 0) = nI (bk_w D k 0) := hm _ (by omega)
        have hlv := lv_if (D := D) (k := k) a4 a5
        refine s_X12_net_66 (by omega) τ _ _ _ _ (fun c => absurd c gle) (fun c => absurd c gle) (fun _ => by rw [i3]; exact n_in _ _) (fun _ _ => by rw [i2]; exact n_in _ _) (fun _ c => ?_) (fun _ _ => by rw [i0]; exact n_in _ _) (fun _ c => ?_)
        · rw [i3, i2, t3, t2, w3, w2] at c
          have z : bk_lv D k = false := by cases q : bk_lv D k
                                           · rfl
                                           · exact absurd (hlv.mpr q) c
          rw [or_z, nI_1]
          rw [pn_set_no (by unfold brp; rw [z]; rfl)] at ih
          exact ih
        · rw [i3, i2, t3, t2, w3, w2] at c
          have z : bk_lv D k = true := hlv.mp c
          have eby : sk_by k = nI k := if_neg (by omega)
          have tb := ct_X12_townBut (d := 59) (by omega) hb hm a1 (b := k) (Or.inr (by omega))
          rw [eby] at tb
          rw [i0, t0, w0]
          refine tb.mono ?_
          rintro r u ⟨rfl, rfl⟩
          have sb := set_bit (f := twn D (fun q => bk_lv D q && !decide (q = k)) (bk_w D k 0)) hn a2
          refine ⟨_, rfl, s_X12_net_101 (by omega) u _ _ _ _ _ (by rw [i1]; exact n_in _ _) ?_⟩
          rw [i1, t1, w1, nI_1]
          cases y : twn D (fun q => bk_lv D q && !decide (q = k)) (bk_w D k 0) (bk_w D k 1)
          · have e0 : (if (¬ (¬ ((pn_set n (twn D (fun q => bk_lv D q && !decide (q = k)) (bk_w D k 0)) >>> (nI (bk_w D k 1) &&& 31)) &&& (1 : Int32)) = (1 : Int32))) then (0 : Int32) else ((1 : Int32) <<< (nI k &&& 31))) = ((1 : Int32) <<< (nI k &&& 31)) := if_neg (fun q => by have := sb.mp (Classical.not_not.mp q); rw [y] at this; exact absurd this (by decide))
            rw [e0, pn_set_up (p := brp D) (by unfold brp; rw [y, z]; rfl)]
            exact ih
          · have e0 : (if (¬ (¬ ((pn_set n (twn D (fun q => bk_lv D q && !decide (q = k)) (bk_w D k 0)) >>> (nI (bk_w D k 1) &&& 31)) &&& (1 : Int32)) = (1 : Int32))) then (0 : Int32) else ((1 : Int32) <<< (nI k &&& 31))) = 0 := if_pos (not_not_intro (sb.mpr y))
            rw [e0, or_z]
            rw [pn_set_no (by unfold brp; rw [y]; simp)] at ih
            exact ih
  · refine good.ask h (-1) ?_ ?_
    · refine ax_Ct.of (lv := [some (ax_r 0), some (ax_i a0)]) (by decide +kernel) (fun ad => Nat.le_of_ble_eq_true rfl) (fun ad => rfl) ?_
      exact s_X11_net_0 (d := 59) (by omega) σ _ (fun _ => ⟨rfl, fo.rfl'⟩) (fun c1 c2 _ => absurd ⟨fun q => c1 (zC.mpr q), (bit_C _).mp c2⟩ g) (fun c1 c2 _ => absurd ⟨fun q => c1 (zC.mpr q), (bit_C _).mp c2⟩ g) (fun _ _ => ⟨rfl, fo.rfl'⟩)
    · refine ax_Ct.of (lv := [some (ax_r 0), some (ax_i a0), none, none, none]) (by decide +kernel) (fun ad => Nat.le_of_ble_eq_true rfl) (fun ad => rfl) ?_
      exact s_X12_net_0 (d := 59) (by omega) τ _ (fun _ => ⟨rfl, fo.rfl'⟩) (fun c1 c2 => absurd ⟨fun q => c1 (zM.mpr q), (bit_M _).mp c2⟩ g) (fun _ _ => ⟨rfl, fo.rfl'⟩)
