/-! ===== strike ===== -/
def bz (p : Nat → Bool) : Nat → Nat
  | 0 => 0
  | k + 1 => bz p k + (if p k then 2 ^ k else 0)
theorem bz_lt (p : Nat → Bool) : ∀ k, bz p k < 2 ^ k
  | 0 => by simp [bz]
  | k + 1 => by
    have := bz_lt p k
    rw [bz, Nat.pow_succ]; split <;> omega
theorem pn_sh : ∀ k, k < 31 → (1 : Int32) <<< (nI k &&& 31) = nI (2 ^ k) := by decide +kernel
theorem pn_bz (p : Nat → Bool) : ∀ k, k ≤ 31 → pn_set k p = nI (bz p k)
  | 0, _ => rfl
  | k + 1, h => by
    rw [pn_set, pn_bz p k (by omega), bz]
    cases p k
    · simp
    · simp only [if_true]
      rw [pn_sh k (by omega), fa_or]
      congr 1
      rw [Nat.or_comm, show (2 ^ k) = 2 ^ k * 1 by omega, ← Nat.two_pow_add_eq_or_of_lt (bz_lt p k)]; omega
def scD (k : Nat) (D : Nat → Nat) (p : Nat → Bool) (j : Nat) : Nat := if j < k ∧ p j = true then max 1 (D j - 1) else if 8 ≤ j ∧ j < 8 + k ∧ p (j - 8) = true then min 99 (D j + 1) else D j
theorem scD_out {k : Nat} {D : Nat → Nat} {p : Nat → Bool} {j : Nat} (hk : k ≤ 8) (h : 16 ≤ j) : scD k D p j = D j := by
  unfold scD; rw [if_neg (fun q => by omega), if_neg (fun q => by omega)]
theorem scD_ok {n : Nat} {E D : Nat → Nat} {dry : Nat} (p : Nat → Bool) (h : bk_ok n E D dry) : bk_ok n E (scD n D p) dry := by
  have hn := h.2.1
  obtain ⟨p1, p2, p3, p4, p5, p6, p7, p8, p9⟩ := h
  have o : ∀ j, 16 ≤ j → scD n D p j = D j := fun j hj => scD_out hn hj
  refine ⟨p1, p2, p3, by rw [o 84 (by omega)]; exact p4, by rw [o 85 (by omega)]; exact p5, by rw [o 86 (by omega)]; exact p6, by rw [o 84 (by omega)]; exact p7, fun h hh => ?_, fun w hw => ?_⟩
  · obtain ⟨q1, q2, q3, q4, q5, q6, q7⟩ := p8 h hh
    refine ⟨q1, q2, q3, q4, ?_⟩
    unfold scD
    refine ⟨?_, ?_, ?_⟩
    · split
      · omega
      · rw [if_neg (by omega)]; exact q5
    · split
      · omega
      · rw [if_neg (by omega)]; exact q6
    · rw [if_neg (by omega)]; split
      · omega
      · exact q7
  · rw [o 84 (by omega)] at hw
    show scD n D p (16 + 4 * w + 0) < n ∧ scD n D p (16 + 4 * w + 1) < n ∧ scD n D p (16 + 4 * w + 0) ≠ scD n D p (16 + 4 * w + 1) ∧ scD n D p (16 + 4 * w + 2) ≤ 9 ∧ scD n D p (16 + 4 * w + 3) ≤ 1
    rw [o _ (by omega), o _ (by omega), o _ (by omega), o _ (by omega)]; exact p9 w hw
theorem bit_set {n k : Nat} {p : Nat → Bool} (hn : n ≤ 8) (hk : k < n) : ((pn_set n p >>> (nI k &&& 31)) &&& (1 : Int32) = 1) ↔ p k = true := by
  rw [pn_bitOf1 _ k (by omega), pn_set_bt p n (by omega) k (by omega)]; simp [hk]
theorem ct_X0_scorch {d : Nat} (hd : 2 ≤ d) {σ : ax_S} {n : Nat} {E D : Nat → Nat} {dry : Nat} (p : Nat → Bool) (hok : bk_ok n E D dry) (hC : bk_C σ n E D dry) :
    ax_Ct shC d mX0_scorch [ax_r 5, ax_i (pn_set n p)] (fun r u => r = none ∧ fo (fun c i => c = 25 ∨ c = 27) u σ ∧ bk_C u n E (scD n D p) dry) σ := by
  obtain ⟨d, rfl⟩ : ∃ e, d = e + 1 := ⟨d - 1, by omega⟩
  have hn := hok.2.1
  obtain ⟨p1, p2, p3, p4, p5, p6, p7, p8, p9⟩ := hC
  refine ax_Ct.of (lv := [some (ax_r 5), some (ax_i (pn_set n p)), none]) (by decide +kernel) (fun ad => Nat.le_of_ble_eq_true rfl) (fun ad => rfl) ?_
  refine s_X0_scorch_0 (by omega) σ _ ?_
  have loop := lp_up (m := n) (P := fun k => ∀ u, fo (fun c i => c = 25 ∨ c = 27) u σ → (∀ h, h < n → u.1 25 h = nI (scD k D p h) ∧ u.1 27 h = nI (scD k D p (8 + h))) → ax_W shC (d + 1) mX0_scorch (fun r u => r = none ∧ fo (fun c i => c = 25 ∨ c = 27) u σ ∧ bk_C u n E (scD n D p) dry) 2 [some (ax_r 5), some (ax_i (pn_set n p)), some (ax_i (nI k))] [] u) ?_ ?_
  · refine loop 0 (by omega) σ fo.rfl' (fun h hh => ?_)
    have e1 : scD 0 D p h = D h := by unfold scD; rw [if_neg (by omega), if_neg (by omega)]
    have e2 : scD 0 D p (8 + h) = D (8 + h) := by unfold scD; rw [if_neg (by omega), if_neg (by omega)]
    rw [e1, e2]; exact (p6 h hh).2.2.2
  · intro u hf hu
    have g : u.1 5 9 ≤ nI n := by rw [hf.1 5 9 (by omega), p1]; exact (n_le _ _).mpr (Nat.le_refl _)
    refine s_X0_scorch_2 (by omega) u _ _ ?_ ?_ ?_ ?_ <;> intros <;> try contradiction
    have o : ∀ j, 16 ≤ j → scD n D p j = D j := fun j hj => scD_out hn hj
    have k5 : ∀ i, u.1 5 i = σ.1 5 i := fun i => hf.1 5 i (by omega)
    refine ⟨rfl, hf, by rw [k5]; exact p1, by rw [k5, o 84 (by omega)]; exact p2, by rw [k5, o 85 (by omega)]; exact p3, by rw [k5]; exact p4, by rw [k5, o 86 (by omega)]; exact p5, fun h hh => ?_, fun w hw => ?_, fun i hi => ?_, fun h hh w hw => ?_⟩
    · rw [hf.1 23 h (by omega), hf.1 24 h (by omega), hf.1 26 h (by omega)]
      exact ⟨(p6 h hh).1, (p6 h hh).2.1, (p6 h hh).2.2.1, (hu h hh).1, (hu h hh).2⟩
    · rw [o 84 (by omega)] at hw
      rw [hf.1 28 w (by omega), hf.1 29 w (by omega), hf.1 30 w (by omega)]
      show _ = nI (scD n D p (16 + 4 * w + 0)) ∧ _ = nI (scD n D p (16 + 4 * w + 1)) ∧ _ = nI (scD n D p (16 + 4 * w + 2))
      rw [o _ (by omega), o _ (by omega), o _ (by omega)]; exact p7 w hw
    · rw [k5, p8 i hi, o 84 (by omega)]
      show _ = (_ && decide (scD n D p (16 + 4 * i + 3) = 1))
      rw [o _ (by omega)]
    · rw [o 84 (by omega)] at hw
      rw [hf.1 31 h (by omega), p9 h hh w hw]
      show _ = (decide (scD n D p (16 + 4 * w + 0) = h) || decide (scD n D p (16 + 4 * w + 1) = h))
      rw [o _ (by omega), o _ (by omega)]
  · intro k hk ih u hf hu
    have g : ¬ u.1 5 9 ≤ nI k := by rw [hf.1 5 9 (by omega), p1]; exact fun z => absurd ((n_le _ _).mp z) (by omega)
    have hb := bit_set (p := p) hn hk
    obtain ⟨q1, q2, q3, q4, q5, q6, q7⟩ := hok.2.2.2.2.2.2.2.1 k hk
    have s1 : scD k D p k = D k := by unfold scD; rw [if_neg (by omega), if_neg (by omega)]
    have s2 : scD k D p (8 + k) = D (8 + k) := by unfold scD; rw [if_neg (by omega), if_neg (by omega)]
    have hstep : ∀ h, h < n → h ≠ k → scD (k + 1) D p h = scD k D p h ∧ scD (k + 1) D p (8 + h) = scD k D p (8 + h) := fun h hh hne => by
      unfold scD
      refine ⟨?_, ?_⟩
      · by_cases z : h < k ∧ p h = true
        · rw [if_pos z, if_pos ⟨by omega, z.2⟩]
        · rw [if_neg z, if_neg (fun q => z ⟨by omega, q.2⟩), if_neg (by omega), if_neg (by omega)]
      · rw [if_neg (show ¬ (8 + h < k + 1 ∧ p (8 + h) = true) from fun q => by omega), if_neg (show ¬ (8 + h < k ∧ p (8 + h) = true) from fun q => by omega)]
        by_cases z : 8 ≤ 8 + h ∧ 8 + h < 8 + k ∧ p (8 + h - 8) = true
        · rw [if_pos z, if_pos ⟨by omega, by omega, z.2.2⟩]
        · rw [if_neg z, if_neg (fun q => z ⟨by omega, by omega, q.2.2⟩)]
    refine s_X0_scorch_2 (by omega) u _ _ (fun z => absurd z g) (fun _ z => ?_) (fun _ _ => n_in k 8) (fun _ z => ?_)
    · rw [nI_1]
      refine ih u hf (fun h hh => ?_)
      by_cases e : h = k
      · have hp : ¬ p k = true := fun q => z (hb.mpr q)
        have e1 : scD (k + 1) D p k = D k := by unfold scD; rw [if_neg (fun q => hp q.2), if_neg (by omega)]
        have e2 : scD (k + 1) D p (8 + k) = D (8 + k) := by
          unfold scD; rw [if_neg (by omega), if_neg]
          intro q; have q3 := q.2.2; rw [Nat.add_sub_cancel_left] at q3; exact hp q3
        rw [e, e1, e2, ← s1, ← s2, s1, s2]
        have := hu k hk
        rw [s1, s2] at this; exact this
      · rw [(hstep h hh e).1, (hstep h hh e).2]; exact hu h hh
    · have hp : p k = true := hb.mp (Classical.not_not.mp z)
      obtain ⟨u1, u2⟩ := hu k hk
      rw [s1] at u1; rw [s2] at u2
      rw [n_tn k, u1, u2, nI_1, show (99 : Int32) = nI 99 from rfl, show nI (D (8 + k)) + 1 = nI (D (8 + k) + 1) from nI_1 _, n_min 99 (D (8 + k) + 1), show nI (D k) - (1 : Int32) = nI (D k - 1) from n_sub (D k) 1, show (if (1 : Int32) < nI (D k - 1) then nI (D k - 1) else (1 : Int32)) = nI (max 1 (D k - 1)) from n_max 1 (D k - 1)]
      refine ih _ ((hf.ui (by omega)).ui (by omega)) (fun h hh => ?_)
      by_cases e : h = k
      · have e1 : scD (k + 1) D p k = max 1 (D k - 1) := by unfold scD; rw [if_pos ⟨by omega, hp⟩]
        have e2 : scD (k + 1) D p (8 + k) = min 99 (D (8 + k) + 1) := by
          unfold scD; rw [if_neg (by omega), if_pos]
          exact ⟨by omega, by omega, by rw [Nat.add_sub_cancel_left]; exact hp⟩
        rw [e, e1, e2]
        exact ⟨ui_same _ _ _ _, by rw [ui_cell (by omega), ui_same]⟩
      · rw [(hstep h hh e).1, (hstep h hh e).2, ui_idx e, ui_cell (by omega), ui_cell (by omega), ui_idx e]; exact hu h hh
/-- the log, one more -/
def lgp (D : Nat → Nat) (x y z j : Nat) : Nat :=
  if D 87 < 60 then (if j = 87 then D 87 + 1 else if j = 88 + 3 * D 87 then x else if j = 89 + 3 * D 87 then y else if j = 90 + 3 * D 87 then z else D j)
  else (if j = 265 then x else if j = 266 then y else if j = 267 then z else if 88 ≤ j ∧ j < 265 then D (j + 3) else D j)
theorem lgp_out {D : Nat → Nat} {x y z j : Nat} (h : j < 87) : lgp D x y z j = D j := by
  unfold lgp; split
  · rw [if_neg (by omega), if_neg (by omega), if_neg (by omega), if_neg (by omega)]
  · rw [if_neg (by omega), if_neg (by omega), if_neg (by omega), if_neg (by omega)]
theorem lgp_87 {D : Nat → Nat} {x y z : Nat} (h : D 87 ≤ 60) : lgp D x y z 87 = min 60 (D 87 + 1) := by
  unfold lgp; split
  · rw [if_pos rfl]; omega
  · rw [if_neg (by omega), if_neg (by omega), if_neg (by omega), if_neg (by omega)]; omega
theorem lgp_ok {n : Nat} {E D : Nat → Nat} {dry x y z : Nat} (h : bk_ok n E D dry) : bk_ok n E (lgp D x y z) dry := by
  obtain ⟨p1, p2, p3, p4, p5, p6, p7, p8, p9⟩ := h
  have o : ∀ j, j < 87 → lgp D x y z j = D j := fun j hj => lgp_out hj
  refine ⟨p1, p2, p3, by rw [o 84 (by omega)]; exact p4, by rw [o 85 (by omega)]; exact p5, by rw [o 86 (by omega)]; exact p6, by rw [o 84 (by omega)]; exact p7, fun h hh => ?_, fun w hw => ?_⟩
  · rw [o h (by omega), o (8 + h) (by omega)]; exact p8 h hh
  · rw [o 84 (by omega)] at hw
    show lgp D x y z (16 + 4 * w + 0) < n ∧ lgp D x y z (16 + 4 * w + 1) < n ∧ lgp D x y z (16 + 4 * w + 0) ≠ lgp D x y z (16 + 4 * w + 1) ∧ lgp D x y z (16 + 4 * w + 2) ≤ 9 ∧ lgp D x y z (16 + 4 * w + 3) ≤ 1
    rw [o _ (by omega), o _ (by omega), o _ (by omega), o _ (by omega)]; exact p9 w hw
theorem lgp_C {u : ax_S} {n : Nat} {E D : Nat → Nat} {dry x y z : Nat} (h8 : n ≤ 8) (h84 : D 84 ≤ 16) (h : bk_C u n E D dry) : bk_C u n E (lgp D x y z) dry := by
  obtain ⟨p1, p2, p3, p4, p5, p6, p7, p8, p9⟩ := h
  have o : ∀ j, j < 87 → lgp D x y z j = D j := fun j hj => lgp_out hj
  refine ⟨p1, by rw [o 84 (by omega)]; exact p2, by rw [o 85 (by omega)]; exact p3, p4, by rw [o 86 (by omega)]; exact p5, fun h hh => ?_, fun w hw => ?_, fun i hi => ?_, fun h hh w hw => ?_⟩
  · rw [o h (by omega), o (8 + h) (by omega)]; exact p6 h hh
  · rw [o 84 (by omega)] at hw
    show _ = nI (lgp D x y z (16 + 4 * w + 0)) ∧ _ = nI (lgp D x y z (16 + 4 * w + 1)) ∧ _ = nI (lgp D x y z (16 + 4 * w + 2))
    rw [o _ (by omega), o _ (by omega), o _ (by omega)]; exact p7 w hw
  · rw [p8 i hi, o 84 (by omega)]
    by_cases q : i < D 84
    · show _ = (_ && decide (lgp D x y z (16 + 4 * i + 3) = 1))
      rw [o _ (by omega)]
    · simp [q]
  · rw [o 84 (by omega)] at hw
    rw [p9 h hh w hw]
    show _ = (decide (lgp D x y z (16 + 4 * w + 0) = h) || decide (lgp D x y z (16 + 4 * w + 1) = h))
    rw [o _ (by omega), o _ (by omega)]
theorem lgp_lg {D : Nat → Nat} {x y z : Nat} (h : lg_ok D) (hx : x < 100000) (hy : y < 100000) (hz : z < 100000) : lg_ok (lgp D x y z) := by
  obtain ⟨h1, h2⟩ := h
  refine ⟨by rw [lgp_87 h1]; omega, fun j hj => ?_⟩
  unfold lgp
  repeat' split
  all_goals first | omega | exact h2 _ (by omega)
theorem hi_far {a T : Nat} {te : Nat → Nat} (h : hi_te a T te) : ∀ d e, e + d + 1 = a → te e ≤ T ∧ T ≤ te e + (d + 1)
  | 0, e, he => h.2 e (by omega)
  | d + 1, e, he => by
    have h1 := hi_far h d (e + 1) (by omega)
    have h2 := h.1 e (by omega)
    omega
theorem hi_R.log {σ u : ax_S} {n a T x y z : Nat} {D D' : Nat → Nat} {H : Nat → Nat → Nat} (h : hi_R σ n a T D H) (ha : a ≤ 40) (hD : ∀ j, 87 ≤ j → D' j = lgp D x y z j) (h87 : D 87 ≤ 60) (hk : ∀ c j, c = 7 ∨ c = 36 → u.1 c j = σ.1 c j) (hT : u.1 8 2 = nI (T + 1))
    (hnew : u.1 37 (T % 128 * 3) = nI x ∧ u.1 37 (T % 128 * 3 + 1) = nI y ∧ u.1 37 (T % 128 * 3 + 2) = nI z) (hold : ∀ j, ¬ (T % 128 * 3 ≤ j ∧ j < T % 128 * 3 + 3) → u.1 37 j = σ.1 37 j) : hi_C u n a (T + 1) D' H := by
  obtain ⟨nx, te, ⟨x1, x2, x3, x4, x5, x6, x8⟩, hl, -⟩ := h
  have r36 : u.1 36 = σ.1 36 := funext fun j => hk 36 j (by omega)
  obtain ⟨l1, l2⟩ := x5
  refine ⟨nx, te, by rw [hk 7 1 (by omega)]; exact x1, by rw [hk 7 2 (by omega)]; exact x2, x3, hT, ⟨?_, fun i k hi hk3 => ?_⟩, ⟨x6.1, fun e he => ?_⟩, fun e he => ?_⟩
  · rw [hD 87 (by omega), lgp_87 h87]; omega
  · rw [hD 87 (by omega), lgp_87 h87] at hi ⊢
    rw [hD _ (by omega)]
    by_cases i0 : i = 0
    · have ev : lgp D x y z (88 + 3 * (min 60 (D 87 + 1) - 1 - i) + k) = if k = 0 then x else if k = 1 then y else z := by
        unfold lgp
        by_cases q : D 87 < 60
        · rw [if_pos q, if_neg (by omega)]
          by_cases k0 : k = 0
          · rw [if_pos (by omega), if_pos k0]
          · rw [if_neg (by omega), if_neg k0]
            by_cases k1 : k = 1
            · rw [if_pos (by omega), if_pos k1]
            · rw [if_neg (by omega), if_neg k1, if_pos (by omega)]
        · rw [if_neg q]
          by_cases k0 : k = 0
          · rw [if_pos (by omega), if_pos k0]
          · rw [if_neg (by omega), if_neg k0]
            by_cases k1 : k = 1
            · rw [if_pos (by omega), if_pos k1]
            · rw [if_neg (by omega), if_neg k1, if_pos (by omega)]
      rw [ev, show (T + 1 - 1 - i) % 128 * 3 + k = T % 128 * 3 + k by rw [i0]; rfl]
      obtain rfl | rfl | rfl : k = 0 ∨ k = 1 ∨ k = 2 := by omega
      · exact hnew.1
      · exact hnew.2.1
      · exact hnew.2.2
    · rw [hold _ (by omega), show T + 1 - 1 - i = T - 1 - (i - 1) by omega, l2 (i - 1) k (by omega) hk3]
      congr 1
      unfold lgp
      by_cases q : D 87 < 60
      · rw [if_pos q, if_neg (by omega), if_neg (by omega), if_neg (by omega), if_neg (by omega)]; congr 1; omega
      · rw [if_neg q, if_neg (by omega), if_neg (by omega), if_neg (by omega), if_pos (by omega)]; congr 1; omega
  · have := hl e he; omega
  · obtain ⟨y1, y2, y3, y4⟩ := x8 e he
    have hfar := hi_far x6 (a - 1 - e) e (by omega)
    refine ⟨by rw [r36]; exact y1, by rw [r36]; exact y2, y3, fun i k hi hk3 => ?_⟩
    rw [hold _ (by omega)]; exact y4 i k hi hk3
/-- what a stroke leaves of the belt -/
def stB (D : Nat → Nat) (kp : Nat → Nat → Nat → Nat) (h v : Nat) (k : Nat) : Bool := decide (D k < (dk_run D kp h v).1 k)
def stS (n : Nat) (D : Nat → Nat) (kp : Nat → Nat → Nat → Nat) (h v : Nat) : Nat := bz (stB D kp h v) n
def stD (n : Nat) (D : Nat → Nat) (kp : Nat → Nat → Nat → Nat) (h v : Nat) : Nat → Nat := lgp (scD n D (stB D kp h v)) h v (stS n D kp h v)
theorem stS_eq {n : Nat} {D : Nat → Nat} {kp : Nat → Nat → Nat → Nat} {h v : Nat} (hn : n ≤ 8) : dk_bu n D kp h v = nI (stS n D kp h v) := pn_bz _ n (by omega)
theorem stS_lt {n : Nat} {D : Nat → Nat} {kp : Nat → Nat → Nat → Nat} {h v : Nat} (hn : n ≤ 8) : stS n D kp h v < 256 := by
  have := bz_lt (stB D kp h v) n
  have h2 : 2 ^ n ≤ 2 ^ 8 := Nat.pow_le_pow_right (by decide) hn
  unfold stS; omega
theorem stD_out {n : Nat} {D : Nat → Nat} {kp : Nat → Nat → Nat → Nat} {h v j : Nat} (hn : n ≤ 8) (h1 : 16 ≤ j) (h2 : j < 87) : stD n D kp h v j = D j := by
  unfold stD; rw [lgp_out h2, scD_out hn h1]
theorem stD_ok {n : Nat} {E D : Nat → Nat} {dry : Nat} {kp : Nat → Nat → Nat → Nat} {h v : Nat} (hb : bk_ok n E D dry) : bk_ok n E (stD n D kp h v) dry := lgp_ok (scD_ok _ hb)
theorem stD_lg {n : Nat} {E D : Nat → Nat} {dry : Nat} {kp : Nat → Nat → Nat → Nat} {h v : Nat} (hb : bk_ok n E D dry) (hl : lg_ok D) (hh : h < n) (hv : v ≤ 999) : lg_ok (stD n D kp h v) := by
  have hn := hb.2.1
  refine lgp_lg ⟨by rw [scD_out hn (by omega)]; exact hl.1, fun j hj => ?_⟩ (by omega) (by omega) (by have := stS_lt (n := n) (D := D) (kp := kp) (h := h) (v := v) hn; omega)
  have := hl.2 j hj
  unfold scD
  repeat' split
  all_goals omega
def st_SB (c i : Nat) : Prop := scr c i ∨ c = 25 ∨ c = 27 ∨ c = 37 ∨ (c = 8 ∧ i = 2)
/-- CopperTies.strikeNow -/
theorem ct_X11_strikeNow {d : Nat} (hd : 11 ≤ d) {σ : ax_S} {n : Nat} {E D : Nat → Nat} {dry a T : Nat} {H : Nat → Nat → Nat} {kp : Nat → Nat → Nat → Nat} {h v : Nat} (hb : bk_ok n E D dry) (hl : lg_ok D) (ha : a ≤ 40) (hT : T < 1000000) (hC : bk_C σ n E D dry) (hsm : bk_sm σ) (hR : hi_R σ n a T D H) (hK : sk_K σ n kp) (hkp : ∀ h p c, kp h p c ≤ p) (hh : h < n) (hv1 : 1 ≤ v) (hv : v ≤ 999) :
    ax_Ct shC d mX11_strikeNow [ax_r 0, ax_i (nI h), ax_i (nI v)] (fun r u => r = some (ax_i (nI (stS n D kp h v))) ∧ fo st_SB u σ ∧ CB u n E (stD n D kp h v) dry a (T + 1) H) σ := by
  obtain ⟨d, rfl⟩ : ∃ e, d = e + 1 := ⟨d - 1, by omega⟩
  have hn := hb.2.1
  have h84 := hb.2.2.2.1
  have hS := stS_lt (n := n) (D := D) (kp := kp) (h := h) (v := v) hn
  refine ax_Ct.of (lv := [some (ax_r 0), some (ax_i (nI h)), some (ax_i (nI v)), none]) (by decide +kernel) (fun ad => Nat.le_of_ble_eq_true rfl) (fun ad => rfl) ?_
  refine s_X11_strikeNow_0 (by omega) σ _ _ ?_
  refine (ct_live (by omega) hb hC).mono (fun r u hu => ⟨_, hu.1, s_X11_strikeNow_11 (by omega) u _ _ _ ?_⟩)
  obtain ⟨-, rfl⟩ := hu
  refine (ct_fall_D (by omega) (st_ok hb hkp) (st_C hb hC) hK hh hv1 hv).mono ?_
  rintro r w ⟨rfl, w1, w2, w3, w4⟩
  have hCw : bk_C w n E D dry := hC.to w1.1 (fun c i h => by unfold scr at h; omega)
  refine ⟨_, rfl, s_X11_strikeNow_16 (by omega) w _ _ _ ?_⟩
  refine (ct_X0_scorch (by omega) (stB D kp h v) hb hCw).mono ?_
  rintro r x ⟨rfl, x1, x2⟩
  have x82 : x.1 8 2 = nI T := by
    obtain ⟨nx, te, ⟨y1, y2, y3, y4, -⟩, -⟩ := hR
    rw [x1.1 8 2 (by omega), w1.1 8 2 (by unfold scr; omega)]; exact y4
  have r0 : (x.1 8 2 - x.1 8 2 / 128 * 128) * (3 : Int32) = nI (T % 128 * 3) := by
    rw [x82, show (128 : Int32) = nI 128 from rfl, n_rem T 128, show (3 : Int32) = nI 3 from rfl, n_mul]
  have r1 : nI (T % 128 * 3) + (1 : Int32) = nI (T % 128 * 3 + 1) := n_add _ 1
  have r2 : nI (T % 128 * 3) + (2 : Int32) = nI (T % 128 * 3 + 2) := n_add _ 2
  have e : dk_bu n D kp h v = nI (stS n D kp h v) := stS_eq hn
  refine ⟨rfl, s_X11_strikeNow_25 (by omega) x _ _ _ (by rw [r0]; exact n_in _ _) (by rw [r0, r1]; exact n_in _ _) (by rw [r0, r2]; exact n_in _ _) ?_⟩
  rw [r0, r1, r2, n_tn _, n_tn _, n_tn _, x82, nI_1, e]
  have f1 : fo (fun c i => c = 37 ∨ (c = 8 ∧ i = 2)) (ax_ui (ax_ui (ax_ui (ax_ui x 37 (T % 128 * 3) (nI h)) 37 (T % 128 * 3 + 1) (nI v)) 37 (T % 128 * 3 + 2) (nI (stS n D kp h v))) 8 2 (nI (T + 1))) x := (((fo.rfl'.ui (by omega)).ui (by omega)).ui (by omega)).ui (by omega)
  have hcb : bk_C x n E (stD n D kp h v) dry := lgp_C hn (by rw [scD_out hn (by omega)]; exact h84) x2
  refine ⟨rfl, (f1.mono (fun c i h => by unfold st_SB; omega)).trans ((x1.mono (fun c i h => by unfold st_SB; omega)).trans (w1.mono (fun c i h => Or.inl h))), hcb.to f1.1 (by omega), ?_, ?_⟩
  · exact ((hsm.to w1.1 (fun c i h => by unfold scr at h; omega)).to x1.1 (by omega)).to f1.1 (by omega)
  · have hscD : ∀ j, 87 ≤ j → scD n D (stB D kp h v) j = D j := fun j hj => scD_out hn (by omega)
    refine hR.log (x := h) (y := v) (z := stS n D kp h v) ha (fun j hj => ?_) hl.1 (fun c j hc => ?_) (ui_same _ _ _ _) ⟨?_, ?_, ?_⟩ (fun j hj => ?_)
    · show lgp (scD n D (stB D kp h v)) h v (stS n D kp h v) j = _
      unfold lgp
      rw [hscD 87 (by omega), hscD j hj, hscD (j + 3) (by omega)]
    · rw [f1.1 c j (by omega), x1.1 c j (by omega), w1.1 c j (by unfold scr; omega)]
    · rw [ui_cell (by omega), ui_idx (by omega), ui_idx (by omega), ui_same]
    · rw [ui_cell (by omega), ui_idx (by omega), ui_same]
    · rw [ui_cell (by omega), ui_same]
    · rw [ui_cell (by omega), ui_idx (by omega), ui_idx (by omega), ui_idx (by omega), x1.1 37 j (by omega), w1.1 37 j (by unfold scr; omega)]
def shL (D : Nat → Nat) (k j : Nat) : Nat := if 88 ≤ j ∧ j + 3 < 88 + k then D (j + 3) else D j
def st_SM (c i : Nat) : Prop := scm c i ∨ c = 15
set_option maxHeartbeats 1000000 in
/-- the reference's strikeNow -/
theorem ct_X12_strikeNow {d : Nat} (hd : 12 ≤ d) {τ : ax_S} {n : Nat} {E D : Nat → Nat} {dry : Nat} {kp : Nat → Nat → Nat → Nat} {h v : Nat} (hb : bk_ok n E D dry) (hl : lg_ok D) (hM : bk_M τ n E D dry) (hK : mk_K τ n kp) (hkp : ∀ h p c, kp h p c ≤ p) (hh : h < n) (hv1 : 1 ≤ v) (hv : v ≤ 999) :
    ax_Ct shM d mX12_strikeNow [ax_r 0, ax_i (nI h), ax_i (nI v)] (fun r u => r = some (ax_i (nI (stS n D kp h v))) ∧ fo st_SM u τ ∧ mD u (stD n D kp h v)) τ := by
  obtain ⟨d, rfl⟩ : ∃ e, d = e + 1 := ⟨d - 1, by omega⟩
  have hn := hb.2.1
  have h84 := hb.2.2.2.1
  have hS := stS_lt (n := n) (D := D) (kp := kp) (h := h) (v := v) hn
  have e : dk_bu n D kp h v = nI (stS n D kp h v) := stS_eq hn
  refine ax_Ct.of (lv := [some (ax_r 0), some (ax_i (nI h)), some (ax_i (nI v)), none, none]) (by decide +kernel) (fun ad => Nat.le_of_ble_eq_true rfl) (fun ad => rfl) ?_
  refine s_X12_strikeNow_0 (by omega) τ _ _ ?_
  refine (ct_X12_burningBy (by omega) (st_ok hb hkp) hM.1 hM.2.2.1 hK hh hv1 hv).mono ?_
  rintro r w ⟨rfl, w1, -⟩
  have hmw : mD w D := hM.2.2.1.to w1 scm15
  refine ⟨_, rfl, s_X12_strikeNow_6 (by omega) w _ _ _ ?_⟩
  let p := stB D kp h v
  let D1 := scD n D p
  have o1 : ∀ j, 16 ≤ j → D1 j = D j := fun j hj => scD_out hn hj
  have h87 : D 87 ≤ 60 := hl.1
  -- the log
  have fin : ∀ u, fo st_SM u τ → mD u D1 → ax_W shM (d + 1) mX12_strikeNow (fun r u => r = some (ax_i (nI (stS n D kp h v))) ∧ fo st_SM u τ ∧ mD u (stD n D kp h v)) 10 [some (ax_r 0), some (ax_i (nI h)), some (ax_i (nI v)), some (ax_i (dk_bu n D kp h v)), some (ax_i (nI n))] [] u := by
    intro u hf hu
    have e23 : u.1 0 23 = nI n := by rw [hf.1 0 23 (by unfold st_SM scm; omega)]; exact hM.1
    have e87 : u.1 15 87 = nI (D 87) := by rw [hu 87 (by omega), o1 87 (by omega)]
    have g : u.1 0 23 ≤ nI n := by rw [e23]; exact (n_le _ _).mpr (Nat.le_refl _)
    by_cases z : D 87 < 60
    · have g6 : ¬ u.1 15 87 = (60 : Int32) := by rw [e87]; exact fun q => absurd ((n_eq _ 60).mp q) (by omega)
      have r0 : (88 : Int32) + 3 * u.1 15 87 = nI (88 + 3 * D 87) := by rw [e87, show (3 : Int32) = nI 3 from rfl, n_mul, show (88 : Int32) = nI 88 from rfl, n_add]
      have r1 : nI (88 + 3 * D 87) + (1 : Int32) = nI (88 + 3 * D 87 + 1) := n_add _ 1
      have r2 : nI (88 + 3 * D 87) + (2 : Int32) = nI (88 + 3 * D 87 + 2) := n_add _ 2
      refine s_X12_strikeNow_10 (by omega) u _ _ _ _ ?_ ?_ ?_ ?_ ?_ ?_ ?_ ?_ ?_ <;> intros <;> try contradiction
      · rw [r0]; exact n_in _ _
      · rw [r0, r1]; exact n_in _ _
      · rw [r0, r2]; exact n_in _ _
      · rw [r0, r1, r2, n_tn _, n_tn _, n_tn _, e]
        have ev : (ax_ui (ax_ui (ax_ui u 15 (88 + 3 * D 87) (nI h)) 15 (88 + 3 * D 87 + 1) (nI v)) 15 (88 + 3 * D 87 + 2) (nI (stS n D kp h v))).1 15 87 + 1 = nI (D 87 + 1) := by
          rw [ui_idx (by omega), ui_idx (by omega), ui_idx (by omega), e87, nI_1]
        rw [ev]
        refine ⟨rfl, (((hf.ui (Or.inr rfl)).ui (Or.inr rfl)).ui (Or.inr rfl)).ui (Or.inr rfl), ((((hu.set (88 + 3 * D 87) h).set (88 + 3 * D 87 + 1) v).set (88 + 3 * D 87 + 2) (stS n D kp h v)).set 87 (D 87 + 1)).cong (fun j hj => ?_)⟩
        show lgp D1 h v (stS n D kp h v) j = _
        unfold lgp
        rw [o1 87 (by omega), if_pos z]
        unfold dset
        by_cases q87 : j = 87
        · rw [if_pos q87, if_pos q87]
        · rw [if_neg q87, if_neg q87]
          by_cases q2 : j = 88 + 3 * D 87 + 2
          · rw [if_neg (by omega), if_neg (by omega), if_pos (by omega), if_pos q2]
          · rw [if_neg q2]
            by_cases q1 : j = 88 + 3 * D 87 + 1
            · rw [if_neg (by omega), if_pos (by omega), if_pos q1]
            · rw [if_neg q1]
              by_cases q0 : j = 88 + 3 * D 87
              · rw [if_pos q0, if_pos q0]
              · rw [if_neg q0, if_neg q0, if_neg (by omega), if_neg (by omega)]
    · have z60 : D 87 = 60 := by omega
      have g6 : ¬ ¬ u.1 15 87 = (60 : Int32) := by rw [e87, z60]; exact not_not_intro rfl
      refine s_X12_strikeNow_10 (by omega) u _ _ _ _ ?_ ?_ ?_ ?_ ?_ ?_ ?_ ?_ ?_ <;> intros <;> try contradiction
      have loop := lp_up (m := 180) (P := fun k => 3 ≤ k → ∀ u, fo st_SM u τ → mD u (shL D1 k) → ax_W shM (d + 1) mX12_strikeNow (fun r u => r = some (ax_i (nI (stS n D kp h v))) ∧ fo st_SM u τ ∧ mD u (stD n D kp h v)) 100 [some (ax_r 0), some (ax_i (nI h)), some (ax_i (nI v)), some (ax_i (dk_bu n D kp h v)), some (ax_i (nI k))] [] u) ?_ ?_
      · exact loop 3 (by omega) (by omega) u hf (hu.cong (fun j hj => if_neg (by omega)))
      · intro _ u hf hu
        have g : (180 : Int32) ≤ nI 180 := by decide
        have e87 : u.1 15 87 = nI 60 := by rw [hu 87 (by omega), shL, if_neg (by omega), o1 87 (by omega), z60]
        have em : u.1 15 87 - (1 : Int32) = nI 59 := by rw [e87]; rfl
        have r0 : (88 : Int32) + 3 * nI 59 = nI 265 := by decide
        have r1 : nI 265 + (1 : Int32) = nI 266 := by decide
        have r2 : nI 265 + (2 : Int32) = nI 267 := by decide
        refine s_X12_strikeNow_100 (by omega) u _ _ _ _ ?_ ?_ ?_ ?_ ?_ ?_ ?_ <;> intros <;> try contradiction
        · rw [em, r0]; exact n_in _ _
        · rw [em, r0, r1]; exact n_in _ _
        · rw [em, r0, r2]; exact n_in _ _
        · rw [em, r0, r1, r2, n_tn 265, n_tn 266, n_tn 267, e]
          have ev : (ax_ui (ax_ui (ax_ui (ax_ui u 15 87 (nI 59)) 15 265 (nI h)) 15 266 (nI v)) 15 267 (nI (stS n D kp h v))).1 15 87 + 1 = nI 60 := by
            rw [ui_idx (by omega), ui_idx (by omega), ui_idx (by omega), ui_same, nI_1]
          rw [ev]
          refine ⟨rfl, ((((hf.ui (Or.inr rfl)).ui (Or.inr rfl)).ui (Or.inr rfl)).ui (Or.inr rfl)).ui (Or.inr rfl), (((((hu.set 87 59).set 265 h).set 266 v).set 267 (stS n D kp h v)).set 87 60).cong (fun j hj => ?_)⟩
          show lgp D1 h v (stS n D kp h v) j = _
          unfold lgp
          rw [o1 87 (by omega), if_neg z]
          unfold dset
          by_cases q87 : j = 87
          · rw [if_pos q87, if_neg (by omega), if_neg (by omega), if_neg (by omega), if_neg (by omega), q87, o1 87 (by omega), z60]
          · rw [if_neg q87]
            by_cases q2 : j = 267
            · rw [if_neg (by omega), if_neg (by omega), if_pos q2, if_pos q2]
            · rw [if_neg q2, if_neg q2]
              by_cases q1 : j = 266
              · rw [if_neg (by omega), if_pos q1, if_pos q1]
              · rw [if_neg q1, if_neg q1]
                by_cases q0 : j = 265
                · rw [if_pos q0, if_pos q0]
                · rw [if_neg q0, if_neg q0, if_neg q87, shL]
                  by_cases q8 : 88 ≤ j ∧ j < 265
                  · rw [if_pos q8, if_pos ⟨q8.1, by omega⟩]
                  · rw [if_neg q8, if_neg (fun q => q8 ⟨q.1, by omega⟩)]
      · intro k hk ih hk3 u hf hu
        have g : ¬ (180 : Int32) ≤ nI k := fun z => absurd ((n_le 180 k).mp z) (by omega)
        have r0 : (88 : Int32) + nI k = nI (88 + k) := n_add 88 k
        have r1 : nI (88 + k) - (3 : Int32) = nI (88 + k - 3) := n_sub (88 + k) 3
        refine s_X12_strikeNow_100 (by omega) u _ _ _ _ ?_ ?_ ?_ ?_ ?_ ?_ ?_ <;> intros <;> try contradiction
        · rw [r0]; exact n_in _ _
        · rw [r0, r1]; exact n_in _ _
        · rw [r0, r1, n_tn _, n_tn _, nI_1, hu (88 + k) (by omega), shL, if_neg (by omega)]
          refine ih (by omega) _ (hf.ui (Or.inr rfl)) ((hu.set (88 + k - 3) (D1 (88 + k))).cong (fun j hj => ?_))
          unfold dset shL
          by_cases q : j = 88 + k - 3
          · rw [if_pos q, if_pos ⟨by omega, by omega⟩]; congr 1; omega
          · rw [if_neg q]
            by_cases q2 : 88 ≤ j ∧ j + 3 < 88 + k
            · rw [if_pos q2, if_pos ⟨q2.1, by omega⟩]
            · rw [if_neg q2, if_neg (fun r => q2 ⟨r.1, by omega⟩)]
  have loop := lp_up (m := n) (P := fun k => ∀ u, fo st_SM u τ → mD u (scD k D p) → ax_W shM (d + 1) mX12_strikeNow (fun r u => r = some (ax_i (nI (stS n D kp h v))) ∧ fo st_SM u τ ∧ mD u (stD n D kp h v)) 10 [some (ax_r 0), some (ax_i (nI h)), some (ax_i (nI v)), some (ax_i (dk_bu n D kp h v)), some (ax_i (nI k))] [] u) ?_ ?_
  · refine loop 0 (by omega) w (w1.mono (fun c i h => Or.inl h)) (hmw.cong (fun j hj => ?_))
    unfold scD; rw [if_neg (by omega), if_neg (by omega)]
  · intro u hf hu; exact fin u hf hu
  · intro k hk ih u hf hu
    have e23 : u.1 0 23 = nI n := by rw [hf.1 0 23 (by unfold st_SM scm; omega)]; exact hM.1
    have g : ¬ u.1 0 23 ≤ nI k := by rw [e23]; exact fun z => absurd ((n_le _ _).mp z) (by omega)
    have hbs : ((dk_bu n D kp h v >>> (nI k &&& 31)) &&& (1 : Int32) = 1) ↔ p k = true := bit_set (p := p) hn hk
    have i8 : (8 : Int32) + nI k = nI (8 + k) := n_add 8 k
    have i0 : (0 : Int32) + nI k = nI k := n_0 k
    obtain ⟨q1, q2, q3, q4, q5, q6, q7⟩ := hb.2.2.2.2.2.2.2.1 k hk
    have s1 : scD k D p k = D k := by unfold scD; rw [if_neg (by omega), if_neg (by omega)]
    have s2 : scD k D p (8 + k) = D (8 + k) := by unfold scD; rw [if_neg (by omega), if_neg (by omega)]
    refine s_X12_strikeNow_10 (by omega) u _ _ _ _ (fun z => absurd z g) (fun z => absurd z g) (fun z => absurd z g) (fun z => absurd z g) (fun z => absurd z g) (fun _ z => ?_) (fun _ _ => by rw [i8]; exact n_in _ _) (fun _ _ => by rw [i0]; exact n_in _ _) (fun _ z => ?_)
    · rw [nI_1]
      refine ih u hf (hu.cong (fun j hj => ?_))
      have hp : ¬ p k = true := fun q => (Classical.not_not.mp z) (hbs.mpr q)
      unfold scD
      by_cases ej : j = k
      · rw [if_neg (fun q => hp (by rw [← ej]; exact q.2)), if_neg (by omega), if_neg (fun q => hp (by rw [← ej]; exact q.2)), if_neg (by omega)]
      · by_cases ej8 : j = 8 + k
        · have : ¬ p (j - 8) = true := by rw [ej8, Nat.add_sub_cancel_left]; exact hp
          rw [if_neg (show ¬ (j < k + 1 ∧ p j = true) from fun q => by omega), if_neg (show ¬ (8 ≤ j ∧ j < 8 + (k + 1) ∧ p (j - 8) = true) from fun q => this q.2.2), if_neg (show ¬ (j < k ∧ p j = true) from fun q => by omega), if_neg (show ¬ (8 ≤ j ∧ j < 8 + k ∧ p (j - 8) = true) from fun q => this q.2.2)]
        · have a1 : (j < k + 1 ∧ p j = true) ↔ (j < k ∧ p j = true) := ⟨fun q => ⟨by omega, q.2⟩, fun q => ⟨by omega, q.2⟩⟩
          have a2 : (8 ≤ j ∧ j < 8 + (k + 1) ∧ p (j - 8) = true) ↔ (8 ≤ j ∧ j < 8 + k ∧ p (j - 8) = true) := ⟨fun q => ⟨q.1, by omega, q.2.2⟩, fun q => ⟨q.1, by omega, q.2.2⟩⟩
          simp only [a1, a2]
    · have hp : p k = true := hbs.mp (Classical.not_not.mp z)
      have v8 : u.1 15 (8 + k) = nI (D (8 + k)) := by rw [hu _ (by omega), s2]
      have v0 : u.1 15 k = nI (D k) := by rw [hu _ (by omega), s1]
      rw [i8, i0, n_tn _, n_tn _, ui_idx (by omega), v8, v0, nI_1, show (99 : Int32) = nI 99 from rfl, show nI (D (8 + k)) + 1 = nI (D (8 + k) + 1) from nI_1 _, n_min 99 (D (8 + k) + 1), show nI (D k) - (1 : Int32) = nI (D k - 1) from n_sub (D k) 1, show (if (1 : Int32) < nI (D k - 1) then nI (D k - 1) else (1 : Int32)) = nI (max 1 (D k - 1)) from n_max 1 (D k - 1)]
      refine ih _ ((hf.ui (Or.inr rfl)).ui (Or.inr rfl)) (((hu.set (8 + k) _).set k _).cong (fun j hj => ?_))
      unfold dset scD
      by_cases ej : j = k
      · rw [if_pos ej, if_pos ⟨by omega, by rw [ej]; exact hp⟩, ej]
      · rw [if_neg ej]
        by_cases ej8 : j = 8 + k
        · rw [if_pos ej8, if_neg (by omega), if_pos ⟨by omega, by omega, by rw [ej8, Nat.add_sub_cancel_left]; exact hp⟩, ej8]
        · rw [if_neg ej8]
          have a1 : (j < k + 1 ∧ p j = true) ↔ (j < k ∧ p j = true) := ⟨fun q => ⟨by omega, q.2⟩, fun q => ⟨by omega, q.2⟩⟩
          have a2 : (8 ≤ j ∧ j < 8 + (k + 1) ∧ p (j - 8) = true) ↔ (8 ≤ j ∧ j < 8 + k ∧ p (j - 8) = true) := ⟨fun q => ⟨q.1, by omega, q.2.2⟩, fun q => ⟨q.1, by omega, q.2.2⟩⟩
          simp only [a1, a2]
theorem good_strike {j : Nat} {σ τ : ax_S} (hj : j ≤ 1000) (h : RR j σ τ) (xa va : Int32) : good j mX11_strike mX12_strike [ax_i xa, ax_i va] σ τ := by
  obtain ⟨n, E, D, dry, lw, ho, L, a, T, H, hb, hlg, hlw, hh, hT, hCB, hMB, hlC, hlM, hnext⟩ := h.belt
  have hn := hb.2.1
  have e9 : σ.1 5 9 = nI n := hCB.1.1
  have e23 : τ.1 0 23 = nI n := hMB.1.1
  by_cases g : ∃ k, k < n ∧ xa = nI k
  · obtain ⟨x, hx, rfl⟩ := g
    have a1 : ¬ nI x < 0 ∧ ¬ σ.1 5 9 ≤ nI x := by rw [e9]; exact (is_H (nI x) n).mpr ⟨x, hx, rfl⟩
    have b1 : ¬ nI x < (0 : Int32) ∧ ¬ τ.1 0 23 - 1 < nI x := by rw [e23]; exact (is_Hm (nI x) n).mpr ⟨x, hx, rfl⟩
    by_cases g1 : ∃ k, 1 ≤ k ∧ k ≤ 999 ∧ va = nI k
    · obtain ⟨v, hv1, hv, rfl⟩ := g1
      have a2 : ¬ nI v < (1 : Int32) ∧ ¬ (999 : Int32) < nI v := (in_R (nI v) 1 999).mpr ⟨v, hv1, hv, rfl⟩
      let kp := kpf E D dry ho L
      refine ⟨nI (stS n D kp x v), (fun u => fo SB u σ ∧ CB u n E (stD n D kp x v) dry (min 40 (a + 1)) (T + 1) (hpush a H D)), (fun w => fo SM w τ ∧ MB w n E (stD n D kp x v) dry (min 40 (a + 1)) (hpush a H D)), ?_, ?_, ?_⟩
      · refine ax_Ct.of (lv := [some (ax_r 0), some (ax_i (nI x)), some (ax_i (nI v))]) (by decide +kernel) (fun ad => Nat.le_of_ble_eq_true rfl) (fun ad => rfl) ?_
        refine s_X11_strike_0 (d := 59) (by omega) σ _ _ ?_ ?_ ?_ <;> intros <;> try contradiction
        refine (ct_X11_remember (by omega) hb hCB.1 hCB.2.1 hh.1 hCB.2.2).mono ?_
        rintro r u ⟨rfl, hf, hR⟩
        obtain ⟨u1, u2⟩ := hCB.kept hf
        have hlu : lwC u lw ho L := hlC.to hf.1 (by omega)
        refine ⟨rfl, s_X11_strike_31 (by omega) u _ _ ?_⟩
        refine (ct_X11_strikeNow (by omega) hb hlg (by omega) (by omega) u1 u2 hR (skK_of hlw (st_H hb u1) hlu hn) (kpf_le E D dry ho L) hx hv1 hv).mono ?_
        rintro r w ⟨rfl, w1, w2⟩
        exact ⟨_, rfl, s_X11_strike_37 (by omega) w _ ⟨rfl, (w1.mono (fun c i h => by unfold st_SB scr at h; unfold SB rd_S scC scr; omega)).trans (fo_SB hf), w2⟩⟩
      · refine ax_Ct.of (lv := [some (ax_r 0), some (ax_i (nI x)), some (ax_i (nI v))]) (by decide +kernel) (fun ad => Nat.le_of_ble_eq_true rfl) (fun ad => rfl) ?_
        refine s_X12_strike_0 (d := 59) (by omega) τ _ _ ?_
        rw [if_pos b1, if_pos a2]
        refine (ct_allowed (by omega) τ).mono (fun r u hu => ⟨_, hu.1, ?_⟩)
        obtain ⟨-, rfl⟩ := hu
        refine s_X12_strike_28 (by omega) u _ _ _ (fun _ => ?_) (fun z => absurd rfl z)
        refine (ct_X12_keep (by omega) hh.1 hMB.1.2.2.1 hMB.2).mono ?_
        rintro r w ⟨rfl, hf, hw1⟩
        have w1 := hMB.kept hf
        have hlu : lwM w lw ho L := hlM.to hf.1 (by omega)
        refine ⟨rfl, s_X12_strike_37 (by omega) w _ _ ?_⟩
        refine (ct_X12_strikeNow (by omega) hb hlg w1 (mkK_of hlw (st_Hm hb w1) hlu hn) (kpf_le E D dry ho L) hx hv1 hv).mono ?_
        rintro r t ⟨rfl, t1, t2⟩
        refine ⟨_, rfl, s_X12_strike_43 (by omega) t _ ⟨rfl, (t1.mono (fun c i h => by unfold st_SM scm at h; unfold SM scM scm; omega)).trans (fo_SM hf), ?_, hw1.to t1.1 (fun c i h => by unfold st_SM scm at h; omega)⟩⟩
        exact ⟨by rw [t1.1 0 23 (by unfold st_SM scm; omega)]; exact w1.1, by rw [t1.1 0 24 (by unfold st_SM scm; omega)]; exact w1.2.1, t2, fun p q hp hq => by rw [t1.1 14 _ (by unfold st_SM scm; omega)]; exact w1.2.2.2 p q hp hq⟩
      · rintro u w ⟨fC, hu⟩ ⟨fM, hw⟩
        exact hnext _ _ (T + 1) _ u w (stD_ok hb) (stD_lg hb hlg hx hv) (hpush_ok hh hb hlg) (by omega) fC.1 ⟨by rw [fC.2], by rw [fC.2]⟩ fM.1 hu hw
    · have a2 : ¬ (¬ va < (1 : Int32) ∧ ¬ (999 : Int32) < va) := fun z => g1 ((in_R va 1 999).mp z)
      refine good_refuse h (i := 1) (by omega) ?_ ?_
      · refine ax_Ct.of (lv := [some (ax_r 0), some (ax_i (nI x)), some (ax_i va)]) (by decide +kernel) (fun ad => Nat.le_of_ble_eq_true rfl) (fun ad => rfl) ?_
        refine s_X11_strike_0 (d := 59) (by omega) σ _ _ ?_ ?_ ?_ <;> intros <;> try contradiction
        exact ⟨rfl, rfl⟩
      · refine ax_Ct.of (lv := [some (ax_r 0), some (ax_i (nI x)), some (ax_i va)]) (by decide +kernel) (fun ad => Nat.le_of_ble_eq_true rfl) (fun ad => rfl) ?_
        refine s_X12_strike_0 (d := 59) (by omega) τ _ _ ?_
        rw [if_pos b1, if_neg a2]
        exact (ct_refused (by omega) τ (i := 1) (by omega)).mono (fun r u hu => ⟨_, hu.1, s_X12_strike_28 (by omega) u _ _ _ (fun z => absurd z (by decide)) (fun _ => ⟨rfl, hu.2⟩)⟩)
  · have a1 : ¬ (¬ xa < 0 ∧ ¬ σ.1 5 9 ≤ xa) := fun z => g ((is_H xa n).mp (by rw [← e9]; exact z))
    have b1 : ¬ (¬ xa < (0 : Int32) ∧ ¬ τ.1 0 23 - 1 < xa) := fun z => g ((is_Hm xa n).mp (by rw [← e23]; exact z))
    refine good_refuse h (i := 0) (by omega) ?_ ?_
    · refine ax_Ct.of (lv := [some (ax_r 0), some (ax_i xa), some (ax_i va)]) (by decide +kernel) (fun ad => Nat.le_of_ble_eq_true rfl) (fun ad => rfl) ?_
      refine s_X11_strike_0 (d := 59) (by omega) σ _ _ ?_ ?_ ?_ <;> intros <;> try contradiction
      exact ⟨rfl, rfl⟩
    · refine ax_Ct.of (lv := [some (ax_r 0), some (ax_i xa), some (ax_i va)]) (by decide +kernel) (fun ad => Nat.le_of_ble_eq_true rfl) (fun ad => rfl) ?_
      refine s_X12_strike_0 (d := 59) (by omega) τ _ _ ?_
      rw [if_neg b1]
      exact (ct_refused (by omega) τ (i := 0) (by omega)).mono (fun r u hu => ⟨_, hu.1, s_X12_strike_28 (by omega) u _ _ _ (fun z => absurd z (by decide)) (fun _ => ⟨rfl, hu.2⟩)⟩)
