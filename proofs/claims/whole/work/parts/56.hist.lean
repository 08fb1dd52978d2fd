/-! ===== the history of acts ===== -/
def hpush (a : Nat) (H : Nat → Nat → Nat) (D : Nat → Nat) (e : Nat) : Nat → Nat := if a < 40 then (if e = a then D else H e) else (if e = 39 then D else H (e + 1))
def hi_R (σ : ax_S) (n a T : Nat) (D : Nat → Nat) (H : Nat → Nat → Nat) : Prop := ∃ (nx : Nat) (te : Nat → Nat), hi_X σ n a T D H nx te ∧ (∀ e, e + 1 = a → te e = T) ∧ 1 ≤ a
theorem pk_pack : ∀ x, x < 8 → ∀ y, y < 8 → ∀ z, z < 10 → ∀ c, c < 2 → (((nI x ||| (nI y <<< ((3 : Int32) &&& 31))) ||| (nI z <<< ((6 : Int32) &&& 31))) ||| (nI c <<< ((10 : Int32) &&& 31))) = nI (x + 8 * y + 64 * z + 1024 * c) := by decide +kernel
theorem pk_unp : ∀ x, x < 8 → ∀ y, y < 8 → ∀ z, z < 10 → ∀ c, c < 2 → (nI (x + 8 * y + 64 * z + 1024 * c) &&& (7 : Int32)) = nI x ∧ ((nI (x + 8 * y + 64 * z + 1024 * c) >>> ((3 : Int32) &&& 31)) &&& (7 : Int32)) = nI y ∧ ((nI (x + 8 * y + 64 * z + 1024 * c) >>> ((6 : Int32) &&& 31)) &&& (15 : Int32)) = nI z ∧ ((nI (x + 8 * y + 64 * z + 1024 * c) >>> ((10 : Int32) &&& 31)) &&& (1 : Int32)) = nI c := by decide +kernel
/-- Belt.write -/
theorem ct_X0_write {d : Nat} (hd : 2 ≤ d) {σ : ax_S} {n : Nat} {E D : Nat → Nat} {dry c N b : Nat} (hc : shC[c]? = some (Sum.inr (false, N))) (hc2 : c = 12 ∨ c = 36) (hb : b + 35 ≤ N) (hN : N ≤ 2000) (hok : bk_ok n E D dry) (hC : bk_C σ n E D dry) (hsm : bk_sm σ) :
    ax_Ct shC d mX0_write [ax_r 5, ax_r c, ax_i (nI b)] (fun r u => r = none ∧ fo (fun c' j => c' = c ∧ b ≤ j ∧ j < b + 35) u σ ∧ pk_C (u.1 c) b n D) σ := by
  obtain ⟨d, rfl⟩ : ∃ e, d = e + 1 := ⟨d - 1, by omega⟩
  obtain ⟨h1, h2, h3, h4, h5, h6, h7, h8, h9⟩ := hok
  obtain ⟨c1, c2, c3, c4, c5, c6, c7, c8, c9⟩ := hC
  refine ax_Ct.of (lv := [some (ax_r 5), some (ax_r c), some (ax_i (nI b)), none, none]) (by decide +kernel) (fun ad => Nat.le_of_ble_eq_true rfl) (fun ad => rfl) ?_
  refine s_X0_write_0 (by omega) σ c N hc _ ?_
  -- the last loop
  have loop2 := lp_up (m := 16) (P := fun k => ∀ u, fo (fun c' j => c' = c ∧ b ≤ j ∧ j < b + 35) u σ → (∀ h, h < n → u.1 c (b + h) = nI (D h) ∧ u.1 c (b + 8 + h) = nI (D (8 + h))) →
      (∀ w, w < k → ∃ x y z q, u.1 c (b + 16 + w) = nI (x + 8 * y + 64 * z + 1024 * q) ∧ x < 8 ∧ y < 8 ∧ z ≤ 9 ∧ q ≤ 1 ∧ (w < D 84 → x = bk_w D w 0 ∧ y = bk_w D w 1 ∧ z = bk_w D w 2 ∧ q = bk_w D w 3) ∧ (D 84 ≤ w → q = 0)) →
      ax_W shC (d + 1) mX0_write (fun r u => r = none ∧ fo (fun c' j => c' = c ∧ b ≤ j ∧ j < b + 35) u σ ∧ pk_C (u.1 c) b n D) 47 [some (ax_r 5), some (ax_r c), none, some (ax_i (nI (b + 16))), some (ax_i (nI k))] [] u) ?_ ?_
  · have loop1 := lp_up (m := 8) (P := fun k => ∀ u, fo (fun c' j => c' = c ∧ b ≤ j ∧ j < b + 35) u σ → (∀ h, h < n → h < k → u.1 c (b + h) = nI (D h) ∧ u.1 c (b + 8 + h) = nI (D (8 + h))) →
      ax_W shC (d + 1) mX0_write (fun r u => r = none ∧ fo (fun c' j => c' = c ∧ b ≤ j ∧ j < b + 35) u σ ∧ pk_C (u.1 c) b n D) 2 [some (ax_r 5), some (ax_r c), some (ax_i (nI b)), some (ax_i (nI k)), none] [] u) ?_ ?_
    · exact loop1 0 (by omega) σ fo.rfl' (fun h _ hh => absurd hh (by omega))
    · intro u hf hu
      have g : (8 : Int32) ≤ nI 8 := by decide
      refine s_X0_write_2 (by omega) u c N hc _ _ ?_ ?_ ?_ ?_ ?_ <;> intros <;> try contradiction
      rw [show (16 : Int32) = nI 16 from rfl, n_add]
      exact loop2 0 (by omega) u hf (fun h hh => hu h hh (by omega)) (fun w hw => absurd hw (by omega))
    · intro k hk ih u hf hu
      have g : ¬ (8 : Int32) ≤ nI k := fun z => absurd ((n_le 8 k).mp z) (by omega)
      have i1 : nI b + nI k = nI (b + k) := n_add b k
      have i2 : nI b + (8 : Int32) + nI k = nI (b + 8 + k) := by rw [show (8 : Int32) = nI 8 from rfl, n_add, n_add]
      refine s_X0_write_2 (by omega) u c N hc _ _ ?_ ?_ ?_ ?_ ?_ <;> intros <;> try contradiction
      · exact n_in k 8
      · rw [i1]; exact n_in _ _
      · rw [i2]; exact n_in _ _
      · rw [i1, i2, n_tn k, n_tn (b + k), n_tn (b + 8 + k), nI_1]
        refine ih _ ((hf.ui ⟨rfl, by omega, by omega⟩).ui ⟨rfl, by omega, by omega⟩) (fun h hh hk1 => ?_)
        have hg : ∀ q, q = 25 ∨ q = 27 → u.1 q k = σ.1 q k := fun q hq => hf.1 q k (by omega)
        by_cases e : h = k
        · subst e
          refine ⟨?_, ?_⟩
          · rw [ui_idx (by omega), ui_same, hg 25 (by omega), (c6 h hh).2.2.2.1]
          · rw [ui_same, ui_cell (by omega), hg 27 (by omega), (c6 h hh).2.2.2.2]
        · obtain ⟨u1, u2⟩ := hu h hh (by omega)
          exact ⟨by rw [ui_idx (by omega), ui_idx (by omega)]; exact u1, by rw [ui_idx (by omega), ui_idx (by omega)]; exact u2⟩
  · intro u hf hu hw
    have g : (16 : Int32) ≤ nI 16 := by decide
    have i0 : nI (b + 16) + (16 : Int32) = nI (b + 32) := n_add (b + 16) 16
    have i1 : nI (b + 32) + (1 : Int32) = nI (b + 33) := n_add (b + 32) 1
    have i2 : nI (b + 32) + (2 : Int32) = nI (b + 34) := n_add (b + 32) 2
    refine s_X0_write_47 (by omega) u c N hc _ _ ?_ ?_ ?_ ?_ ?_ ?_ ?_ <;> intros <;> try contradiction
    · rw [i0]; exact n_in _ _
    · rw [i0, i1]; exact n_in _ _
    · rw [i0, i2]; exact n_in _ _
    · rw [i0, i1, i2, n_tn _, n_tn _, n_tn _]
      have k5 : ∀ i, u.1 5 i = σ.1 5 i := fun i => hf.1 5 i (by omega)
      refine ⟨rfl, ((hf.ui ⟨rfl, by omega, by omega⟩).ui ⟨rfl, by omega, by omega⟩).ui ⟨rfl, by omega, by omega⟩, fun h hh => ?_, fun w hw16 => ?_, ?_, ?_, ?_⟩
      · obtain ⟨u1, u2⟩ := hu h hh
        exact ⟨by rw [ui_idx (by omega), ui_idx (by omega), ui_idx (by omega)]; exact u1, by rw [ui_idx (by omega), ui_idx (by omega), ui_idx (by omega)]; exact u2⟩
      · obtain ⟨x, y, z, q, e, r⟩ := hw w hw16
        exact ⟨x, y, z, q, by rw [ui_idx (by omega), ui_idx (by omega), ui_idx (by omega)]; exact e, r⟩
      · rw [ui_idx (by omega), ui_idx (by omega), ui_same, k5, c2]
      · rw [ui_idx (by omega), ui_same, ui_cell (by omega), k5, c3]
      · rw [ui_same, ui_cell (by omega), ui_cell (by omega), k5, c5]
  · intro k hk ih u hf hu hw
    have g : ¬ (16 : Int32) ≤ nI k := fun z => absurd ((n_le 16 k).mp z) (by omega)
    have i1 : nI (b + 16) + nI k = nI (b + 16 + k) := n_add _ k
    refine s_X0_write_47 (by omega) u c N hc _ _ ?_ ?_ ?_ ?_ ?_ ?_ ?_ <;> intros <;> try contradiction
    · exact n_in k 17
    · rw [i1]; exact n_in _ _
    · rw [i1, n_tn k, n_tn (b + 16 + k), nI_1]
      refine ih _ (hf.ui ⟨rfl, by omega, by omega⟩) (fun h hh => ?_) (fun w hw1 => ?_)
      · obtain ⟨u1, u2⟩ := hu h hh
        exact ⟨by rw [ui_idx (by omega)]; exact u1, by rw [ui_idx (by omega)]; exact u2⟩
      · by_cases e : w = k
        · subst e
          have hk5 : ∀ q i, q = 28 ∨ q = 29 ∨ q = 30 ∨ q = 5 → u.1 q i = σ.1 q i := fun q i hq => hf.1 q i (by omega)
          obtain ⟨x, y, z, s1, s2, s3, x8, y8, z9⟩ := hsm w (by omega)
          refine ⟨x, y, z, (if bt (σ.1 5 11) w then 1 else 0), ?_, x8, y8, z9, by split <;> omega, fun hw84 => ?_, fun hw84 => ?_⟩
          · rw [ui_same, hk5 28 w (by omega), hk5 29 w (by omega), hk5 30 w (by omega), hk5 5 11 (by omega), pn_bitOf _ w (by omega), s1, s2, s3]
            have eb : (if bt (σ.1 5 11) w then (1 : Int32) else 0) = nI (if bt (σ.1 5 11) w then 1 else 0) := by cases bt (σ.1 5 11) w <;> rfl
            rw [eb]
            exact pk_pack x x8 y y8 z (by omega) _ (by split <;> omega)
          · obtain ⟨t1, t2, t3⟩ := c7 w hw84
            obtain ⟨p1, p2, p3, p4, p5⟩ := h9 w hw84
            rw [s1] at t1; rw [s2] at t2; rw [s3] at t3
            refine ⟨(n_eq _ _).mp t1, (n_eq _ _).mp t2, (n_eq _ _).mp t3, ?_⟩
            rw [c8 w (by omega)]
            obtain e | e : bk_w D w 3 = 0 ∨ bk_w D w 3 = 1 := by omega
            · rw [e]; simp
            · rw [e]; simp [hw84]
          · rw [c8 w (by omega)]
            have : ¬ w < D 84 := by omega
            simp [this]
        · obtain ⟨x, y, z, q, e', r⟩ := hw w (by omega)
          exact ⟨x, y, z, q, by rw [ui_idx (by omega)]; exact e', r⟩
