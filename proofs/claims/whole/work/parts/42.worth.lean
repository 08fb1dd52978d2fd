/-! ===== Laws.worth: the class ===== -/
def lwS (c i : Nat) : Prop := c = 22 ∨ (c = 4 ∧ i = 6)
theorem ct_X7_push {d : Nat} (hd : 1 ≤ d) {σ : ax_S} {t : Nat} (hs : σ.1 4 6 = nI t) (ht : t < 64) (x : Int32) : ax_Ct shC d mX7_push [ax_r 4, ax_i x] (fun r u => r = none ∧ u = ax_ui (ax_ui σ 22 t x) 4 6 (nI (t + 1))) σ := by
  obtain ⟨d, rfl⟩ : ∃ e, d = e + 1 := ⟨d - 1, by omega⟩
  refine ax_Ct.of (lv := [some (ax_r 4), some (ax_i x)]) (by decide +kernel) (fun ad => Nat.le_of_ble_eq_true rfl) (fun ad => rfl) ?_
  have hn : ¬ ((Int32.ofNat 64) ≤ σ.1 4 6) := by rw [hs]; exact fun z => absurd ((n_le 64 t).mp z) (by omega)
  refine s_X7_push_0 (by omega) σ x (fun c => absurd c hn) (fun _ => by rw [hs]; exact n_in _ _) (fun _ => ⟨rfl, ?_⟩)
  rw [hs, n_tn t, nI_1]
theorem ct_X7_pop {d : Nat} (hd : 1 ≤ d) {σ : ax_S} {t : Nat} (hs : σ.1 4 6 = nI (t + 1)) (ht : t < 64) : ax_Ct shC d mX7_pop [ax_r 4] (fun r u => r = some (ax_i (σ.1 22 t)) ∧ u = ax_ui σ 4 6 (nI t)) σ := by
  obtain ⟨d, rfl⟩ : ∃ e, d = e + 1 := ⟨d - 1, by omega⟩
  refine ax_Ct.of (lv := [some (ax_r 4)]) (by decide +kernel) (fun ad => Nat.le_of_ble_eq_true rfl) (fun ad => rfl) ?_
  have hn : ((1 : Int32) ≤ σ.1 4 6) := by rw [hs]; exact (n_le 1 (t + 1)).mpr (by omega)
  have e : σ.1 4 6 - (1 : Int32) = nI t := by rw [hs]; exact nI_pred t
  refine s_X7_pop_0 (by omega) σ (fun _ => by rw [e]; exact n_in _ _) (fun _ => ⟨?_, ?_⟩) (fun c => absurd hn c)
  · rw [e, n_tn t]
  · rw [e]
/-- the code of law i in the class's rows -/
def lcC (σ : ax_S) (i : Nat) (code : List Nat) : Prop := σ.1 20 i = nI code.length ∧ code.length ≤ 240 ∧ ∀ j w, code[j]? = some w → σ.1 19 (i * 240 + j) = nI w ∧ w < 1000000
def lE (σ u : ax_S) (s : List Int) : Prop := fo lwS u σ ∧ u.1 4 6 = nI s.length ∧ lS (u.1 22) s
theorem lE_push {σ u : ax_S} {s : List Int} {x : Int} (h : lE σ u s) : lE σ (ax_ui (ax_ui u 22 s.length (zI x)) 4 6 (nI (s.length + 1))) (x :: s) := by
  refine ⟨(h.1.ui (Or.inl rfl)).ui (Or.inr ⟨rfl, rfl⟩), by rw [ui_same]; rfl, ?_⟩
  have hf : (ax_ui (ax_ui u 22 s.length (zI x)) 4 6 (nI (s.length + 1))).1 22 = upd (u.1 22) s.length (zI x) := by
    funext j; simp [ui_any, upd]
  rw [hf]; exact lS_push h.2.2
theorem lE_pop {σ u : ax_S} {s : List Int} {x : Int} (h : lE σ u (x :: s)) : lE σ (ax_ui u 4 6 (nI s.length)) s ∧ u.1 22 s.length = zI x := by
  obtain ⟨h1, h2⟩ := lS_pop h.2.2
  refine ⟨⟨h.1.ui (Or.inr ⟨rfl, rfl⟩), by rw [ui_same], ?_⟩, h2⟩
  have hf : (ax_ui u 4 6 (nI s.length)).1 22 = u.1 22 := by funext j; simp [ui_any]
  rw [hf]; exact h1
theorem n_and15 (c v : Nat) (hc : c < 16) (h : c + 16 * v < 2147483648 := by omega) : nI (c + 16 * v) &&& (15 : Int32) = nI c := by
  have := pk_andN (n := c + 16 * v) (by omega) (m := 15) 4 (by decide)
  rw [this]; congr 1; omega
theorem n_shr4 (c v : Nat) (hc : c < 16) (h : c + 16 * v < 2147483648 := by omega) : nI (c + 16 * v) >>> ((4 : Int32) &&& 31) = nI v := by
  have := pk_shrN (n := c + 16 * v) (by omega) ((4 : Int32) &&& 31) 4 (by decide)
  rw [this]; congr 1; omega
set_option maxHeartbeats 2000000 in
/-- a stretch of codes -/
theorem w_items {d : Nat} (hd : 2 ≤ d) {σ : ax_S} {i : Nat} {code : List Nat} {lt : Nat → Int} (hi : i < 4) (h45 : σ.1 4 5 = nI i) (hC : lcC σ i code) (hlt : ∀ j, j < 6 → σ.1 21 j = zI (lt j) ∧ lo_in (lt j)) {Q : Option ax_V → ax_S → Prop} :
    ∀ (its : List (Nat × Nat)) (j : Nat) (k k' : List Bool) (s : List Int) (u : ax_S), (∀ m x, its[m]? = some x → code[j + m]? = some (x.1 + 16 * x.2)) → le_ok 60 its k k' → lV k s → s.length ≤ 60 → lE σ u s →
      (∀ u', lE σ u' (le_run lt its s) → ax_W shC (d + 1) mX7_worth Q 36 [some (ax_r 4), some (ax_i (nI (i * 240))), some (ax_i (nI (j + its.length))), none, none, none, none] [] u') →
      ax_W shC (d + 1) mX7_worth Q 36 [some (ax_r 4), some (ax_i (nI (i * 240))), some (ax_i (nI j)), none, none, none, none] [] u := by
  intro its
  induction its with
  | nil =>
    intro j k k' s u hits hok hV hs60 hE hQ
    exact hQ u hE
  | cons x t ih =>
    intro j k k' s u hits hok hV hs60 hE hQ
    obtain ⟨hf, htop, hstk⟩ := id hE
    obtain ⟨c, v⟩ := x
    have hcode : code[j]? = some (c + 16 * v) := hits 0 (c, v) rfl
    have hjl : j < code.length := (List.getElem?_eq_some_iff.mp hcode).1
    obtain ⟨hw, hwb⟩ := hC.2.2 j _ hcode
    have hcl := hC.2.1
    have u45 : u.1 4 5 = nI i := by rw [hf.1 4 5 (by unfold lwS; omega)]; exact h45
    have hn : ¬ ((u.1 20 (Int32.toNatClampNeg (u.1 4 5))) ≤ nI j) := by
      rw [u45, n_tn i, hf.1 20 i (by unfold lwS; omega), hC.1]
      exact nI_ge hjl (by omega)
    have i1 : vp_in (u.1 4 5) 4 := by rw [u45]; exact n_in _ _
    have e19 : u.1 19 (Int32.toNatClampNeg (nI (i * 240) + nI j)) = nI (c + 16 * v) := by
      rw [n_add, n_tn (i * 240 + j), hf.1 19 _ (by unfold lwS; omega)]; exact hw
    have i3 : vp_in (nI (i * 240) + nI j) 960 := by rw [n_add]; exact n_in _ _
    -- behind this code
    have next : ∀ (k1 : List Bool) (u' : ax_S), le_ok 60 t k1 k' → lV k1 (le_it lt (c, v) s) → (le_it lt (c, v) s).length ≤ 60 → lE σ u' (le_it lt (c, v) s) → ax_W shC (d + 1) mX7_worth Q 36 [some (ax_r 4), some (ax_i (nI (i * 240))), some (ax_i (nI j + 1)), none, none, none, none] [] u' := by
      intro k1 u' g1 g2 g3 g4
      rw [nI_1]
      refine ih (j + 1) k1 k' _ u' (fun m y hy => ?_) g1 g2 g3 g4 (fun u'' hu => ?_)
      · have := hits (m + 1) y (by simpa using hy)
        rw [show j + 1 + m = j + (m + 1) by omega]; exact this
      · rw [show j + 1 + t.length = j + ((c, v) :: t).length by simp only [List.length_cons]; omega]
        exact hQ u'' hu
    obtain ⟨k1, hk1, hV1⟩ := le_step (fun j hj => (hlt j hj).2) hok hV
    have hlen := lV_len hV
    have ne : ∀ q : Nat, q < 1000 → c ≠ q → c < 1000 → ¬ nI c = nI q := fun q h1 h2 h3 z => h2 ((n_eq c q).mp z)
    rcases hok with ⟨p1, p2, p3, p4⟩ | ⟨p1, p2, p3, p4⟩ | ⟨p1, p2, z, p3, p4⟩ | hbin
    · -- a number
      have p1' : c = 0 := p1
      subst p1'
      have e1 := n_and15 0 v (by omega)
      have e2 := n_shr4 0 v (by omega)
      have hit : le_it lt (0, v) s = (v : Int) :: s := by unfold le_it; simp
      rw [hit] at hV1 next
      refine s_X7_worth_36 (by omega) u _ _ i1 (fun z => absurd z hn) (fun _ => i3) (fun _ _ _ z => absurd (by rw [e19, e1]; rfl) z) (fun _ _ _ z => absurd (by rw [e19, e1]; rfl) z) (fun _ _ _ z => absurd (by rw [e19, e1]; rfl) z) (fun _ _ _ z => absurd (by rw [e19, e1]; rfl) z) (fun _ _ _ _ => ?_) (fun _ _ z => absurd (by rw [e19, e1]; decide) z) (fun _ z => absurd (by rw [e19, e1]; decide) z)
      rw [e19, e2]
      refine (ct_X7_push (by omega) htop (by omega) _).mono ?_
      rintro r w ⟨rfl, rfl⟩
      refine ⟨rfl, s_X7_worth_125 (by omega) _ _ _ ?_⟩
      refine next k1 _ hk1 hV1 ?_ ?_
      · simp only [List.length_cons]; omega
      · have := lE_push (x := (v : Int)) hE
        rwa [zI_nat] at this
    · -- a letter
      have p1' : c = 1 := p1
      subst p1'
      have p2' : v < 6 := p2
      have e1 := n_and15 1 v (by omega)
      have e2 := n_shr4 1 v (by omega)
      have hit : le_it lt (1, v) s = lt v :: s := by unfold le_it; simp
      rw [hit] at hV1 next
      have h6 : ¬ ((Int32.ofNat 6) ≤ nI v) := fun z => absurd ((n_le 6 v).mp z) (by omega)
      refine s_X7_worth_36 (by omega) u _ _ i1 (fun z => absurd z hn) (fun _ => i3) (fun _ _ _ _ z => absurd (by rw [e19, e1]; rfl) z) (fun _ _ _ _ z => absurd (by rw [e19, e1]; rfl) z) (fun _ _ _ _ _ _ => by rw [e19, e2]; exact n_in _ _) (fun _ _ _ _ _ => ?_) (fun _ _ _ z => absurd (by rw [e19, e1]; decide) z) (fun _ _ z => absurd (by rw [e19, e1]; decide) z) (fun _ z => absurd (by rw [e19, e1]; decide) z)
      rw [e19, e2, if_neg h6, n_tn v, hf.1 21 v (by unfold lwS; omega), (hlt v p2').1]
      refine (ct_X7_push (by omega) htop (by omega) _).mono ?_
      rintro r w ⟨rfl, rfl⟩
      refine ⟨rfl, s_X7_worth_158 (by omega) _ _ _ ?_⟩
      refine next k1 _ hk1 hV1 ?_ (lE_push hE)
      simp only [List.length_cons]; omega
    · -- not
      have p1' : c = 9 := p1
      subst p1'
      subst p3
      obtain ⟨a, r, rfl, g1, g2, g3⟩ := lV_head hV
      have e1 := n_and15 9 v (by omega)
      have hit : le_it lt (9, v) (a :: r) = (1 - a) :: r := by unfold le_it; simp
      rw [hit] at hV1 next
      obtain ⟨hE2, hv22⟩ := lE_pop hE
      refine s_X7_worth_36 (by omega) u _ _ i1 (fun z => absurd z hn) (fun _ => i3) (fun _ _ _ _ _ z => absurd (by rw [e19, e1]; rfl) z) (fun _ _ _ _ _ _ => ?_) (fun _ _ _ _ z => absurd (by rw [e19, e1]; decide) z) (fun _ _ _ _ z => absurd (by rw [e19, e1]; decide) z) (fun _ _ _ z => absurd (by rw [e19, e1]; decide) z) (fun _ _ z => absurd (by rw [e19, e1]; decide) z) (fun _ z => absurd (by rw [e19, e1]; decide) z)
      refine (ct_X7_pop (by omega) (t := r.length) htop (by simp only [List.length_cons] at hs60; omega)).mono ?_
      rintro q w ⟨rfl, rfl⟩
      refine ⟨_, rfl, s_X7_worth_173 (by omega) _ _ _ _ _ ?_⟩
      rw [hv22, show (1 : Int32) - zI a = zI (1 - a) from (Int32.ofInt_sub 1 a).symm]
      refine (ct_X7_push (by omega) hE2.2.1 (by simp only [List.length_cons] at hs60; omega) _).mono ?_
      rintro q w ⟨rfl, rfl⟩
      refine ⟨rfl, s_X7_worth_177 (by omega) _ _ _ ?_⟩
      exact next k1 _ hk1 hV1 (by simpa using hs60) (lE_push hE2)
    · -- two numbers become one
      have hb : (c = 2 ∨ c = 3 ∨ c = 4 ∨ c = 5 ∨ c = 6 ∨ c = 7 ∨ c = 8 ∨ c = 10 ∨ c = 11) ∧ ∃ b1 b2 m, k = b1 :: b2 :: m := by
        rcases hbin with ⟨q1, q2, q3, m, q4, q5⟩ | ⟨q1, q2, q3, m, q4, q5⟩ | ⟨q1, q2, q3, m, q4, q5⟩
        · exact ⟨by have q1 : 2 ≤ c := q1; have q2 : c ≤ 5 := q2; omega, _, _, _, q4⟩
        · exact ⟨by have q1 : 6 ≤ c := q1; have q2 : c ≤ 8 := q2; omega, _, _, _, q4⟩
        · exact ⟨by have q1 : 10 ≤ c := q1; have q2 : c ≤ 11 := q2; omega, _, _, _, q4⟩
      obtain ⟨hc9, b1, b2, m, hkk⟩ := hb
      subst hkk
      obtain ⟨b, r, rfl, g1, g2, g3⟩ := lV_head hV
      obtain ⟨a, r2, rfl, f1, f2, f3⟩ := lV_head g3
      have e1 := n_and15 c v (by omega)
      have hit : le_it lt (c, v) (b :: a :: r2) = lo_op c a b :: r2 := by
        unfold le_it; rw [if_neg (by simp; omega), if_neg (by simp; omega), if_neg (by simp; omega)]; rfl
      rw [hit] at hV1 next
      obtain ⟨hE2, hv22⟩ := lE_pop hE
      obtain ⟨hE3, hv23⟩ := lE_pop hE2
      have n13 : ¬ ((u.1 19 (Int32.toNatClampNeg (nI (i * 240) + nI j))) &&& (15 : Int32)) = 13 := by rw [e19, e1]; exact ne 13 (by omega) (by omega) (by omega)
      have n12 : ¬ ((u.1 19 (Int32.toNatClampNeg (nI (i * 240) + nI j))) &&& (15 : Int32)) = 12 := by rw [e19, e1]; exact ne 12 (by omega) (by omega) (by omega)
      have n0 : ¬ ((u.1 19 (Int32.toNatClampNeg (nI (i * 240) + nI j))) &&& (15 : Int32)) = 0 := by rw [e19, e1]; exact ne 0 (by omega) (by omega) (by omega)
      have n1 : ¬ ((u.1 19 (Int32.toNatClampNeg (nI (i * 240) + nI j))) &&& (15 : Int32)) = 1 := by rw [e19, e1]; exact ne 1 (by omega) (by omega) (by omega)
      have n9 : ¬ ((u.1 19 (Int32.toNatClampNeg (nI (i * 240) + nI j))) &&& (15 : Int32)) = 9 := by rw [e19, e1]; exact ne 9 (by omega) (by omega) (by omega)
      refine s_X7_worth_36 (by omega) u _ _ i1 (fun z => absurd z hn) (fun _ => i3) (fun _ _ _ _ _ _ => ?_) (fun _ _ _ _ _ z => absurd n9 z) (fun _ _ _ _ z => absurd n1 z) (fun _ _ _ _ z => absurd n1 z) (fun _ _ _ z => absurd n0 z) (fun _ _ z => absurd n12 z) (fun _ z => absurd n13 z)
      have hl60 : r2.length + 2 ≤ 60 := by simpa using hs60
      refine (ct_X7_pop (by omega) (t := r2.length + 1) htop (by omega)).mono ?_
      rintro q w ⟨rfl, rfl⟩
      refine ⟨_, rfl, s_X7_worth_184 (by omega) _ _ _ _ _ ?_⟩
      refine (ct_X7_pop (by omega) (t := r2.length) hE2.2.1 (by omega)).mono ?_
      rintro q w ⟨rfl, rfl⟩
      refine ⟨_, rfl, s_X7_worth_193 (by omega) _ _ _ _ _ _ ?_⟩
      have hv22' : u.1 22 (r2.length + 1) = zI b := hv22
      rw [hv22', hv23, e19, e1, zI_L (x := b) (by unfold lo_in at g1; omega) (by unfold lo_in at g1; omega), zI_L (x := a) (by unfold lo_in at f1; omega) (by unfold lo_in at f1; omega)]
      refine (ct_X7_join (by omega) hc9 f1 g1).mono ?_
      rintro q w ⟨rfl, rfl⟩
      refine ⟨_, rfl, s_X7_worth_199 (by omega) _ _ _ _ ?_⟩
      refine (ct_X7_push (by omega) hE3.2.1 (by omega) _).mono ?_
      rintro q w ⟨rfl, rfl⟩
      refine ⟨rfl, s_X7_worth_202 (by omega) _ _ _ ?_⟩
      refine next k1 _ hk1 hV1 ?_ (lE_push hE3)
      simp only [List.length_cons]; omega
