/-! ===== which law holds, what a house keeps ===== -/
def lm_n : List (List (Nat × Nat) × List (Nat × Nat)) → Nat
  | [] => 0
  | c :: t => c.1.length + c.2.length + lm_n t
/-- clauses of law i in the reference's rows, from clause q and code o on -/
def lmC (τ : ax_S) (i : Nat) : Nat → Nat → List (List (Nat × Nat) × List (Nat × Nat)) → Prop
  | _, _, [] => True
  | q, o, c :: t => τ.1 6 (140 * i + q) = nI o ∧ τ.1 7 (140 * i + q) = nI (o + c.1.length) ∧ τ.1 8 (140 * i + q) = nI (o + c.1.length + c.2.length) ∧
    (∀ m x, c.1[m]? = some x → τ.1 2 (520 * i + o + m) = nI x.1 ∧ τ.1 3 (520 * i + o + m) = nI x.2) ∧ (∀ m x, c.2[m]? = some x → τ.1 2 (520 * i + (o + c.1.length) + m) = nI x.1 ∧ τ.1 3 (520 * i + (o + c.1.length) + m) = nI x.2) ∧ lmC τ i (q + 1) (o + c.1.length + c.2.length) t
theorem lmC.to {τ u : ax_S} {i : Nat} (hk : ∀ c j, c = 2 ∨ c = 3 ∨ c = 6 ∨ c = 7 ∨ c = 8 → u.1 c j = τ.1 c j) : ∀ {law : List (List (Nat × Nat) × List (Nat × Nat))} {q o : Nat}, lmC τ i q o law → lmC u i q o law := by
  intro law
  induction law with
  | nil => intro q o _; trivial
  | cons c t ih =>
    intro q o h
    obtain ⟨h1, h2, h3, h4, h5, h6⟩ := h
    refine ⟨by rw [hk 6 _ (by omega)]; exact h1, by rw [hk 7 _ (by omega)]; exact h2, by rw [hk 8 _ (by omega)]; exact h3, fun m x hx => ?_, fun m x hx => ?_, ih h6⟩
    · rw [hk 2 _ (by omega), hk 3 _ (by omega)]; exact h4 m x hx
    · rw [hk 2 _ (by omega), hk 3 _ (by omega)]; exact h5 m x hx
set_option maxHeartbeats 1000000 in
theorem w_mclauses {d : Nat} (hd : 5 ≤ d) {τ : ax_S} {i n : Nat} {lt : Nat → Int} (hi : i < 5) (hn : n ≤ 100) (h5 : τ.1 5 i = nI n) (hlt : ∀ j, j < 6 → τ.1 9 j = zI (lt j) ∧ lo_in (lt j)) {Q : Option ax_V → ax_S → Prop} :
    ∀ (law : List (List (Nat × Nat) × List (Nat × Nat))) (q o : Nat) (u : ax_S), q + law.length = n → o + lm_n law ≤ 240 → lmC τ i q o law → lw_wf law → fo lmS u τ → (∀ u', fo lmS u' τ → Q (some (ax_i (zI (lw_val lt law)))) u') →
      ax_W shM (d + 1) mX12_worthOf Q 6 [some (ax_r 0), some (ax_i (nI i)), some (ax_i (nI (140 * i + q)))] [] u := by
  have hend : ∀ u, fo lmS u τ → (140 : Int32) * nI i + u.1 5 (Int32.toNatClampNeg (nI i)) = nI (140 * i + n) := fun u hf => by
    rw [n_tn i, hf.1 5 i (by unfold lmS; omega), h5, show (140 : Int32) = nI 140 from rfl, n_mul, n_add]
  intro law
  induction law with
  | nil =>
    intro q o u hq ho hC hwf hf hQ
    have hle : (140 : Int32) * nI i + u.1 5 (Int32.toNatClampNeg (nI i)) ≤ nI (140 * i + q) := by
      rw [hend u hf]; exact nI_le (by simp at hq; omega) (by omega)
    exact s_X12_worthOf_6 (by omega) u _ _ (n_in _ _) (fun _ => hQ u hf) (fun z => absurd hle z) (fun z => absurd hle z) (fun z => absurd hle z) (fun z => absurd hle z) (fun z => absurd hle z)
  | cons cl t ih =>
    intro q o u hq ho hC hwf hf hQ
    obtain ⟨cd, sm⟩ := cl
    obtain ⟨hwc, hws⟩ := hwf (cd, sm) List.mem_cons_self
    obtain ⟨r1, r2, r3, r4, r5, r6⟩ := hC
    have hq1 : q + 1 + t.length = n := by simp only [List.length_cons] at hq; omega
    have ho1 : o + cd.length + sm.length + lm_n t ≤ 240 := by simp only [lm_n] at ho; omega
    have hn1 : ¬ ((140 : Int32) * nI i + u.1 5 (Int32.toNatClampNeg (nI i)) ≤ nI (140 * i + q)) := by
      rw [hend u hf]; exact nI_ge (by omega) (by omega)
    have i2 : vp_in (nI (140 * i + q)) 700 := n_in _ _
    have e6 : ∀ w, fo lmS w τ → w.1 6 (Int32.toNatClampNeg (nI (140 * i + q))) = nI o := fun w hw => by rw [n_tn (140 * i + q), hw.1 6 _ (by unfold lmS; omega)]; exact r1
    have e7 : ∀ w, fo lmS w τ → w.1 7 (Int32.toNatClampNeg (nI (140 * i + q))) = nI (o + cd.length) := fun w hw => by rw [n_tn (140 * i + q), hw.1 7 _ (by unfold lmS; omega)]; exact r2
    have e8 : ∀ w, fo lmS w τ → w.1 8 (Int32.toNatClampNeg (nI (140 * i + q))) = nI (o + cd.length + sm.length) := fun w hw => by rw [n_tn (140 * i + q), hw.1 8 _ (by unfold lmS; omega)]; exact r3
    have hltw : ∀ w, fo lmS w τ → ∀ j, j < 6 → w.1 9 j = zI (lt j) ∧ lo_in (lt j) := fun w hw j hj => by rw [hw.1 9 j (by unfold lmS; omega)]; exact hlt j hj
    have sum : ∀ w, fo lmS w τ → lw_val lt ((cd, sm) :: t) = (le_run lt sm []).headD 0 → ax_Ct shM d mX12_workOut [ax_r 0, ax_i (nI i), ax_i (w.1 7 (Int32.toNatClampNeg (nI (140 * i + q)))), ax_i (w.1 8 (Int32.toNatClampNeg (nI (140 * i + q))))] (fun r u => ∃ x : Int32, r = some (ax_i x) ∧ ax_W shM (d + 1) mX12_worthOf Q 74 [none, none, none] (ax_i x :: []) u) w := by
      intro w hw hval
      rw [e7 w hw, e8 w hw]
      refine (ct_X12_workOut (by omega) hi (by omega) (hltw w hw) (its := sm) rfl (fun m x hx => ?_) hws).mono ?_
      · rw [hw.1 2 _ (by unfold lmS; omega), hw.1 3 _ (by unfold lmS; omega)]; exact r5 m x hx
      · rintro r v ⟨rfl, hv⟩
        refine ⟨_, rfl, s_X12_worthOf_74 (by omega) v _ ?_⟩
        have := hQ v (hv.trans hw)
        rw [hval] at this
        exact this
    by_cases hcd : cd = []
    · subst hcd
      have heq : u.1 6 (Int32.toNatClampNeg (nI (140 * i + q))) = u.1 7 (Int32.toNatClampNeg (nI (140 * i + q))) := by rw [e6 u hf, e7 u hf]; rfl
      exact s_X12_worthOf_6 (by omega) u _ _ (n_in _ _) (fun z => absurd z hn1) (fun _ => i2) (fun _ _ => i2) (fun _ _ => sum u hf (by simp [lw_val])) (fun _ z => absurd heq z) (fun _ z => absurd heq z)
    · have hcl : 0 < cd.length := by cases cd with | nil => exact absurd rfl hcd | cons _ _ => simp
      have hne : ¬ u.1 6 (Int32.toNatClampNeg (nI (140 * i + q))) = u.1 7 (Int32.toNatClampNeg (nI (140 * i + q))) := by
        rw [e6 u hf, e7 u hf]; exact fun z => absurd ((n_eq _ _).mp z) (by omega)
      refine s_X12_worthOf_6 (by omega) u _ _ (n_in _ _) (fun z => absurd z hn1) (fun _ => i2) (fun _ _ => i2) (fun _ z => absurd z hne) (fun _ _ => i2) (fun _ _ => ?_)
      rw [e6 u hf, e7 u hf]
      have hwc' : le_ok 60 cd [] [true] := by rcases hwc with h | h; exact absurd h hcd; exact h
      obtain ⟨y, hy, hyin⟩ := lV1 (le_all (fun j hj => (hlt j hj).2) hwc' (show lV [] [] from trivial))
      refine (ct_X12_workOut (by omega) hi (by omega) (hltw u hf) (its := cd) rfl (fun m x hx => ?_) hwc').mono ?_
      · rw [hf.1 2 _ (by unfold lmS; omega), hf.1 3 _ (by unfold lmS; omega)]; exact r4 m x hx
      · rintro r v ⟨rfl, hv⟩
        have hvτ := hv.trans hf
        rw [hy]
        have hzero : (zI y = 0) ↔ y = 0 := zI_eq (a := y) (b := 0) hyin (by omega)
        refine ⟨_, rfl, s_X12_worthOf_54 (by omega) v _ _ _ (fun z => ?_) (fun _ => i2) (fun z => ?_)⟩
        · rw [nI_1, show 140 * i + q + 1 = 140 * i + (q + 1) by omega]
          have h0 : y = 0 := hzero.mp z
          refine ih (q + 1) _ v hq1 ho1 r6 (fun c hc => hwf c (List.mem_cons_of_mem _ hc)) hvτ (fun u' hu => ?_)
          have := hQ u' hu
          have hval : lw_val lt ((cd, sm) :: t) = lw_val lt t := by
            simp only [lw_val]
            rw [if_neg (by rw [hy]; simp [hcd, h0])]
          rw [hval] at this
          exact this
        · have h0 : ¬ y = 0 := fun e => z (hzero.mpr e)
          exact sum v hvτ (by simp only [lw_val]; rw [if_pos (by rw [hy]; simp [h0])])
theorem ct_X12_worthOf {d : Nat} (hd : 6 ≤ d) {τ : ax_S} {i : Nat} {law : List (List (Nat × Nat) × List (Nat × Nat))} {lt : Nat → Int} (hi : i < 5) (hlen : law.length ≤ 100) (h5 : τ.1 5 i = nI law.length) (hn : lm_n law ≤ 240) (hC : lmC τ i 0 0 law) (hwf : lw_wf law) (hlt : ∀ j, j < 6 → τ.1 9 j = zI (lt j) ∧ lo_in (lt j)) :
    ax_Ct shM d mX12_worthOf [ax_r 0, ax_i (nI i)] (fun r u => r = some (ax_i (zI (lw_val lt law))) ∧ fo lmS u τ) τ := by
  obtain ⟨d, rfl⟩ : ∃ e, d = e + 1 := ⟨d - 1, by omega⟩
  refine ax_Ct.of (lv := [some (ax_r 0), some (ax_i (nI i)), none]) (by decide +kernel) (fun ad => Nat.le_of_ble_eq_true rfl) (fun ad => rfl) ?_
  refine s_X12_worthOf_0 (by omega) τ _ ?_
  rw [show (140 : Int32) = nI 140 from rfl, n_mul]
  exact w_mclauses (lt := lt) (by omega) hi hlen h5 hlt law 0 0 τ (by omega) (by omega) hC hwf fo.rfl' (fun u' hu => ⟨rfl, hu⟩)
theorem lw_val_in {lt : Nat → Int} (hl : ∀ j, j < 6 → lo_in (lt j)) : ∀ {law : List (List (Nat × Nat) × List (Nat × Nat))}, lw_wf law → lo_in (lw_val lt law) := by
  intro law
  induction law with
  | nil => intro _; unfold lo_in; simp [lw_val]
  | cons c t ih =>
    intro hwf
    obtain ⟨cd, sm⟩ := c
    simp only [lw_val]
    split
    · obtain ⟨x, hx, h⟩ := lV1 (le_all hl (hwf (cd, sm) List.mem_cons_self).2 (show lV [] [] from trivial))
      rw [hx]; exact h
    · exact ih (fun c hc => hwf c (List.mem_cons_of_mem _ hc))
def hoI (ho : Nat) : Int32 := if ho = 0 then -1 else nI (ho - 1)
def lwC (σ : ax_S) (lw ho : Nat) (L : Nat → List (List (Nat × Nat) × List (Nat × Nat))) : Prop :=
  σ.1 4 4 = nI lw ∧ σ.1 4 5 = hoI ho ∧ ∀ i, i < lw → lcC σ i (lw_enc 0 (L i))
def lwM (τ : ax_S) (lw ho : Nat) (L : Nat → List (List (Nat × Nat) × List (Nat × Nat))) : Prop :=
  τ.1 0 13 = nI lw ∧ τ.1 0 27 = hoI ho ∧ ∀ i, i < lw → τ.1 5 i = nI (L i).length ∧ lmC τ i 0 0 (L i)
def lwok (lw ho : Nat) (L : Nat → List (List (Nat × Nat) × List (Nat × Nat))) : Prop := lw ≤ 4 ∧ ho ≤ lw ∧ ∀ i, i < lw → lw_wf (L i) ∧ (L i).length ≤ 100 ∧ lm_n (L i) ≤ 240
def ltt (p t l k c y : Nat) (j : Nat) : Int := if j = 0 then p else if j = 1 then t else if j = 2 then l else if j = 3 then k else if j = 4 then c else y
/-- what a house keeps -/
def kpf (E D : Nat → Nat) (dry ho : Nat) (L : Nat → List (List (Nat × Nat) × List (Nat × Nat))) (h p c : Nat) : Nat :=
  if ho = 0 then min p (p / (c + 1) + dry) else (max 0 (min (p : Int) (lw_val (ltt p (E (4 * h + 1)) (D h) (E (4 * h + 3)) c dry) (L (ho - 1))))).toNat
theorem kpf_le (E D : Nat → Nat) (dry ho : Nat) (L : Nat → List (List (Nat × Nat) × List (Nat × Nat))) (h p c : Nat) : kpf E D dry ho L h p c ≤ p := by
  unfold kpf; split
  · omega
  · omega
theorem sk_cl_z {w : Int} {p : Nat} (hw : lo_in w) (hp : p ≤ 999) : sk_cl (zI w) p = nI (max 0 (min (p : Int) w)).toNat := by
  unfold lo_in at hw
  have hz := zI_toInt (x := w) (by omega) (by omega)
  have hpI : (nI p).toInt = (p : Int) := nI_toInt (by omega)
  have h0 : Int32.toInt 0 = 0 := by decide
  unfold sk_cl
  by_cases h : w < p
  · have c1 : zI w < nI p := by rw [Int32.lt_iff_toInt_lt, hz, hpI]; exact h
    rw [if_pos c1]
    by_cases h2 : 0 < w
    · rw [if_pos (by rw [Int32.lt_iff_toInt_lt, hz, h0]; exact h2)]
      have : (max 0 (min (p : Int) w)).toNat = w.toNat := by omega
      rw [this, ← zI_nat]
      congr 1; omega
    · rw [if_neg (by rw [Int32.lt_iff_toInt_lt, hz, h0]; exact h2)]
      have : (max 0 (min (p : Int) w)).toNat = 0 := by omega
      rw [this]; rfl
  · have c1 : ¬ zI w < nI p := by rw [Int32.lt_iff_toInt_lt, hz, hpI]; exact h
    rw [if_neg c1]
    have : (max 0 (min (p : Int) w)).toNat = p := by omega
    rw [this]
    by_cases h2 : 0 < p
    · rw [if_pos (by rw [Int32.lt_iff_toInt_lt, hpI, h0]; omega)]
    · rw [if_neg (by rw [Int32.lt_iff_toInt_lt, hpI, h0]; omega)]
      have : p = 0 := by omega
      rw [this]; rfl
theorem sk_cl_n {w p : Nat} (hw : w < 100000) (hp : p ≤ 999) : sk_cl (nI w) p = nI (min p w) := by
  have h1 := sk_cl_z (w := (w : Int)) (p := p) (by unfold lo_in; omega) hp
  rw [zI_nat] at h1
  rw [h1]; congr 1; omega
