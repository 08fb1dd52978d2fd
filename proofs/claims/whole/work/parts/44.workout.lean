/-! ===== the reference's laws ===== -/
def lmS (c _i : Nat) : Prop := c = 10
def lmE (τ u : ax_S) (s : List Int) : Prop := fo lmS u τ ∧ lS (u.1 10) s
theorem lmE_set {τ u : ax_S} {s : List Int} {x : Int} (h : fo lmS u τ) (hs : lS (u.1 10) s) : lmE τ (ax_ui u 10 s.length (zI x)) (x :: s) := by
  refine ⟨h.ui rfl, ?_⟩
  have hf : (ax_ui u 10 s.length (zI x)).1 10 = upd (u.1 10) s.length (zI x) := by funext j; simp [ui_any, upd]
  rw [hf]; exact lS_push hs
set_option maxHeartbeats 2000000 in
/-- a stretch of the reference's codes -/
theorem w_mitems {d : Nat} (hd : 3 ≤ d) {τ : ax_S} {i e : Nat} {lt : Nat → Int} (hi : i < 5) (he : e ≤ 520) (hlt : ∀ j, j < 6 → τ.1 9 j = zI (lt j) ∧ lo_in (lt j)) {Q : Option ax_V → ax_S → Prop} :
    ∀ (its : List (Nat × Nat)) (p : Nat) (k k' : List Bool) (s : List Int) (u : ax_S), p + its.length = e → (∀ m x, its[m]? = some x → τ.1 2 (520 * i + p + m) = nI x.1 ∧ τ.1 3 (520 * i + p + m) = nI x.2) → le_ok 60 its k k' → lV k s → s.length ≤ 60 → lmE τ u s →
      (∀ u', lmE τ u' (le_run lt its s) → Q (some (ax_i (u'.1 10 0))) u') →
      ax_W shM (d + 1) mX12_workOut Q 12 [some (ax_r 0), some (ax_i (nI i)), none, some (ax_i (nI e)), some (ax_i (nI s.length)), some (ax_i (nI (520 * i + p)))] [] u := by
  have hend : (520 : Int32) * nI i + nI e = nI (520 * i + e) := by rw [show (520 : Int32) = nI 520 from rfl, n_mul, n_add]
  intro its
  induction its with
  | nil =>
    intro p k k' s u hp hits hok hV hs60 hE hQ
    have hpe : p = e := by simpa using hp
    have hle : (520 : Int32) * nI i + nI e ≤ nI (520 * i + p) := by rw [hend, hpe]; exact nI_le (Nat.le_refl _) (by omega)
    exact s_X12_workOut_12 (by omega) u _ _ _ _ (fun _ => hQ u hE) (fun z => absurd hle z) (fun z => absurd hle z) (fun z => absurd hle z) (fun z => absurd hle z) (fun z => absurd hle z) (fun z => absurd hle z) (fun z => absurd hle z) (fun z => absurd hle z) (fun z => absurd hle z) (fun z => absurd hle z) (fun z => absurd hle z) (fun z => absurd hle z) (fun z => absurd hle z) (fun z => absurd hle z) (fun z => absurd hle z) (fun z => absurd hle z) (fun z => absurd hle z) (fun z => absurd hle z) (fun z => absurd hle z) (fun z => absurd hle z) (fun z => absurd hle z)
  | cons x t ih =>
    intro p k k' s u hp hits hok hV hs60 hE hQ
    obtain ⟨hf, hstk⟩ := id hE
    obtain ⟨c, v⟩ := x
    have hpl : p + 1 + t.length = e := by simp only [List.length_cons] at hp; omega
    obtain ⟨w2, w3⟩ := hits 0 (c, v) rfl
    rw [Nat.add_zero] at w2 w3
    have hn : ¬ ((520 : Int32) * nI i + nI e ≤ nI (520 * i + p)) := by rw [hend]; exact nI_ge (by omega) (by omega)
    have e2 : u.1 2 (Int32.toNatClampNeg (nI (520 * i + p))) = nI c := by rw [n_tn (520 * i + p), hf.1 2 _ (by unfold lmS; omega)]; exact w2
    have e3 : u.1 3 (Int32.toNatClampNeg (nI (520 * i + p))) = nI v := by rw [n_tn (520 * i + p), hf.1 3 _ (by unfold lmS; omega)]; exact w3
    have i5 : vp_in (nI (520 * i + p)) 2600 := n_in _ _
    have next : ∀ (k1 : List Bool) (u' : ax_S) (len : Nat), le_ok 60 t k1 k' → lV k1 (le_it lt (c, v) s) → (le_it lt (c, v) s).length ≤ 60 → lmE τ u' (le_it lt (c, v) s) → len = (le_it lt (c, v) s).length → ax_W shM (d + 1) mX12_workOut Q 12 [some (ax_r 0), some (ax_i (nI i)), none, some (ax_i (nI e)), some (ax_i (nI len)), some (ax_i (nI (520 * i + p) + 1))] [] u' := by
      intro k1 u' len g1 g2 g3 g4 g5
      rw [nI_1, g5, show 520 * i + p + 1 = 520 * i + (p + 1) by omega]
      refine ih (p + 1) k1 k' _ u' hpl (fun m y hy => ?_) g1 g2 g3 g4 (fun u'' hu => hQ u'' hu)
      have := hits (m + 1) y (by simpa using hy)
      rw [show 520 * i + (p + 1) + m = 520 * i + p + (m + 1) by omega]; exact this
    obtain ⟨k1, hk1, hV1⟩ := le_step (fun j hj => (hlt j hj).2) hok hV
    have hlen := lV_len hV
    rcases hok with ⟨p1, p2, p3, p4⟩ | ⟨p1, p2, p3, p4⟩ | ⟨p1, p2, z, p3, p4⟩ | hbin
    · have p1' : c = 0 := p1
      subst p1'
      have c0 : u.1 2 (Int32.toNatClampNeg (nI (520 * i + p))) = 0 := e2
      have hit : le_it lt (0, v) s = (v : Int) :: s := by unfold le_it; simp
      rw [hit] at hV1 next
      refine s_X12_workOut_12 (by omega) u _ _ _ _ (fun z => absurd z hn) (fun _ => i5) (fun _ _ => i5) (fun _ _ z => absurd c0 z) (fun _ _ z => absurd c0 z) (fun _ _ _ => i5) (fun _ _ => n_in _ _) (fun _ _ => ?_) (fun _ z => absurd c0 z) (fun _ z => absurd c0 z) (fun _ z => absurd c0 z) (fun _ z => absurd c0 z) (fun _ z => absurd c0 z) (fun _ z => absurd c0 z) (fun _ z => absurd c0 z) (fun _ z => absurd c0 z) (fun _ z => absurd c0 z) (fun _ z => absurd c0 z) (fun _ z => absurd c0 z) (fun _ z => absurd c0 z) (fun _ z => absurd c0 z) (fun _ z => absurd c0 z)
      rw [if_neg (fun z => z c0), e3, n_tn s.length, nI_1, ← zI_nat v]
      refine next k1 _ _ hk1 hV1 ?_ (lmE_set hf hstk) rfl
      simp only [List.length_cons]; omega
    · have p1' : c = 1 := p1
      subst p1'
      have p2' : v < 6 := p2
      have c0 : ¬ u.1 2 (Int32.toNatClampNeg (nI (520 * i + p))) = 0 := by rw [e2]; decide
      have c1 : ¬ (¬ u.1 2 (Int32.toNatClampNeg (nI (520 * i + p))) = 1) := fun z => z e2
      have hit : le_it lt (1, v) s = lt v :: s := by unfold le_it; simp
      rw [hit] at hV1 next
      refine s_X12_workOut_12 (by omega) u _ _ _ _ (fun z => absurd z hn) (fun _ => i5) (fun _ z => absurd z c0) (fun _ z => absurd z c0) (fun _ z => absurd z c0) (fun _ z => absurd z c0) (fun _ z => absurd z c0) (fun _ z => absurd z c0) (fun _ _ => i5) (fun _ _ z => absurd z c1) (fun _ _ z => absurd z c1) (fun _ _ z => absurd z c1) (fun _ _ z => absurd z c1) (fun _ _ z => absurd z c1) (fun _ _ z => absurd z c1) (fun _ _ z => absurd z c1) (fun _ _ _ => i5) (fun _ _ _ _ => i5) (fun _ _ _ _ => by rw [e3]; exact n_in _ _) (fun _ _ _ z => absurd c0 z) (fun _ _ _ => n_in _ _) (fun _ _ _ => ?_)
      rw [if_pos c0, e3, n_tn v, hf.1 9 v (by unfold lmS; omega), (hlt v p2').1, n_tn s.length, nI_1]
      refine next k1 _ _ hk1 hV1 ?_ (lmE_set hf hstk) rfl
      simp only [List.length_cons]; omega
    · have p1' : c = 9 := p1
      subst p1'
      subst p3
      obtain ⟨a, r, rfl, g1, g2, g3⟩ := lV_head hV
      have c0 : ¬ u.1 2 (Int32.toNatClampNeg (nI (520 * i + p))) = 0 := by rw [e2]; decide
      have c1 : ¬ u.1 2 (Int32.toNatClampNeg (nI (520 * i + p))) = 1 := by rw [e2]; decide
      have c9 : ¬ (¬ u.1 2 (Int32.toNatClampNeg (nI (520 * i + p))) = 9) := fun z => z e2
      have hit : le_it lt (9, v) (a :: r) = (1 - a) :: r := by unfold le_it; simp
      rw [hit] at hV1 next
      have hl : (a :: r).length = r.length + 1 := rfl
      have hidx : nI (a :: r).length - (1 : Int32) = nI r.length := by rw [hl]; exact nI_pred _
      obtain ⟨hs1, hs2⟩ := lS_pop hstk
      have hr60 : r.length + 1 ≤ 60 := hs60
      refine s_X12_workOut_12 (by omega) u _ _ _ _ (fun z => absurd z hn) (fun _ => i5) (fun _ z => absurd z c0) (fun _ z => absurd z c0) (fun _ z => absurd z c0) (fun _ z => absurd z c0) (fun _ z => absurd z c0) (fun _ z => absurd z c0) (fun _ _ => i5) (fun _ _ _ => i5) (fun _ _ _ z => absurd z c9) (fun _ _ _ z => absurd z c9) (fun _ _ _ z => absurd z c9) (fun _ _ _ z => absurd z c9) (fun _ _ _ _ => by rw [hidx]; exact n_in _ _) (fun _ _ _ _ => ?_) (fun _ _ z => absurd c1 z) (fun _ _ z => absurd c1 z) (fun _ _ z => absurd c1 z) (fun _ _ z => absurd c1 z) (fun _ _ z => absurd c1 z) (fun _ _ z => absurd c1 z)
      rw [hidx, n_tn r.length, hs2, show (1 : Int32) - zI a = zI (1 - a) from (Int32.ofInt_sub 1 a).symm]
      exact next k1 _ _ hk1 hV1 hs60 (lmE_set hf hs1) rfl
    · have hb : (c = 2 ∨ c = 3 ∨ c = 4 ∨ c = 5 ∨ c = 6 ∨ c = 7 ∨ c = 8 ∨ c = 10 ∨ c = 11) ∧ ∃ b1 b2 m, k = b1 :: b2 :: m := by
        rcases hbin with ⟨q1, q2, q3, m, q4, q5⟩ | ⟨q1, q2, q3, m, q4, q5⟩ | ⟨q1, q2, q3, m, q4, q5⟩
        · exact ⟨by have q1 : 2 ≤ c := q1; have q2 : c ≤ 5 := q2; omega, _, _, _, q4⟩
        · exact ⟨by have q1 : 6 ≤ c := q1; have q2 : c ≤ 8 := q2; omega, _, _, _, q4⟩
        · exact ⟨by have q1 : 10 ≤ c := q1; have q2 : c ≤ 11 := q2; omega, _, _, _, q4⟩
      obtain ⟨hc9, b1, b2, m, hkk⟩ := hb
      subst hkk
      obtain ⟨b, r, rfl, g1, g2, g3⟩ := lV_head hV
      obtain ⟨a, r2, rfl, f1, f2, f3⟩ := lV_head g3
      have ne : ∀ q : Nat, q < 1000 → c ≠ q → ¬ u.1 2 (Int32.toNatClampNeg (nI (520 * i + p))) = nI q := fun q h1 h2 z => h2 ((n_eq c q).mp (e2 ▸ z))
      have c0 : ¬ u.1 2 (Int32.toNatClampNeg (nI (520 * i + p))) = 0 := ne 0 (by omega) (by omega)
      have c1 : ¬ u.1 2 (Int32.toNatClampNeg (nI (520 * i + p))) = 1 := ne 1 (by omega) (by omega)
      have c9 : ¬ u.1 2 (Int32.toNatClampNeg (nI (520 * i + p))) = 9 := ne 9 (by omega) (by omega)
      have hit : le_it lt (c, v) (b :: a :: r2) = lo_op c a b :: r2 := by
        unfold le_it; rw [if_neg (by simp; omega), if_neg (by simp; omega), if_neg (by simp; omega)]; rfl
      rw [hit] at hV1 next
      have hl60 : r2.length + 2 ≤ 60 := hs60
      have hd1 : nI (b :: a :: r2).length + (-1 : Int32) = nI (r2.length + 1) := pk_m1 _
      have hd2 : nI (r2.length + 1) - (1 : Int32) = nI r2.length := nI_pred _
      obtain ⟨hs1, hs2⟩ := lS_pop hstk
      obtain ⟨hs3, hs4⟩ := lS_pop hs1
      have hs2' : u.1 10 (r2.length + 1) = zI b := hs2
      refine s_X12_workOut_12 (by omega) u _ _ _ _ (fun z => absurd z hn) (fun _ => i5) (fun _ z => absurd z c0) (fun _ z => absurd z c0) (fun _ z => absurd z c0) (fun _ z => absurd z c0) (fun _ z => absurd z c0) (fun _ z => absurd z c0) (fun _ _ => i5) (fun _ _ _ => i5) (fun _ _ _ _ => i5) (fun _ _ _ _ => by rw [hd1, hd2]; exact n_in _ _) (fun _ _ _ _ => by rw [hd1]; exact n_in _ _) (fun _ _ _ _ => ?_) (fun _ _ _ z => absurd c9 z) (fun _ _ _ z => absurd c9 z) (fun _ _ z => absurd c1 z) (fun _ _ z => absurd c1 z) (fun _ _ z => absurd c1 z) (fun _ _ z => absurd c1 z) (fun _ _ z => absurd c1 z) (fun _ _ z => absurd c1 z)
      rw [hd1, hd2, n_tn r2.length, n_tn (r2.length + 1), hs2', hs4, e2, zI_L (x := b) (by unfold lo_in at g1; omega) (by unfold lo_in at g1; omega), zI_L (x := a) (by unfold lo_in at f1; omega) (by unfold lo_in at f1; omega)]
      refine (ct_X12_worked (by omega) hc9 f1 g1).mono ?_
      rintro q w ⟨rfl, rfl⟩
      refine ⟨_, rfl, s_X12_workOut_164 (by omega) _ _ _ _ _ _ _ (n_in _ _) ?_⟩
      rw [n_tn r2.length]
      refine next k1 _ _ hk1 hV1 ?_ (lmE_set hf hs3) rfl
      simp only [List.length_cons]; omega
/-- workOut over a whole sum or condition: its worth -/
theorem ct_X12_workOut {d : Nat} (hd : 4 ≤ d) {τ : ax_S} {i f e : Nat} {lt : Nat → Int} {b : Bool} (hi : i < 5) (he : e ≤ 520) (hlt : ∀ j, j < 6 → τ.1 9 j = zI (lt j) ∧ lo_in (lt j)) {its : List (Nat × Nat)} (hfe : f + its.length = e) (hits : ∀ m x, its[m]? = some x → τ.1 2 (520 * i + f + m) = nI x.1 ∧ τ.1 3 (520 * i + f + m) = nI x.2) (hok : le_ok 60 its [] [b]) :
    ax_Ct shM d mX12_workOut [ax_r 0, ax_i (nI i), ax_i (nI f), ax_i (nI e)] (fun r u => r = some (ax_i (zI ((le_run lt its []).headD 0))) ∧ fo lmS u τ) τ := by
  obtain ⟨d, rfl⟩ : ∃ e, d = e + 1 := ⟨d - 1, by omega⟩
  refine ax_Ct.of (lv := [some (ax_r 0), some (ax_i (nI i)), some (ax_i (nI f)), some (ax_i (nI e)), none, none]) (by decide +kernel) (fun ad => Nat.le_of_ble_eq_true rfl) (fun ad => rfl) ?_
  refine s_X12_workOut_0 (by omega) τ _ _ _ ?_
  rw [show (520 : Int32) = nI 520 from rfl, n_mul, n_add]
  refine w_mitems (lt := lt) (by omega) hi he hlt its f [] [b] [] τ hfe hits hok trivial (by simp) ⟨fo.rfl', fun j x hx => by simp at hx⟩ (fun u' hu => ?_)
  obtain ⟨x, hx, -⟩ := lV1 (le_all (fun j hj => (hlt j hj).2) hok (show lV [] [] from trivial))
  rw [hx] at hu ⊢
  refine ⟨?_, hu.1⟩
  have := hu.2 0 x rfl
  rw [show u'.1 10 0 = zI x from this]
  rfl
