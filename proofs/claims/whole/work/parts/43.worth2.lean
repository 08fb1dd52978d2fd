/-! ===== a law: clauses of codes ===== -/
def lw_val (lt : Nat → Int) : List (List (Nat × Nat) × List (Nat × Nat)) → Int
  | [] => 0
  | (cd, sm) :: t => if cd = [] ∨ ¬ (le_run lt cd []).headD 0 = 0 then (le_run lt sm []).headD 0 else lw_val lt t
def lw_e (its : List (Nat × Nat)) : List Nat := its.map (fun x => x.1 + 16 * x.2)
def lw_cl (o : Nat) (c : List (Nat × Nat) × List (Nat × Nat)) : List Nat := (if c.1 = [] then [] else lw_e c.1 ++ [12 + 16 * (o + c.1.length + 1 + c.2.length + 1)]) ++ (lw_e c.2 ++ [13])
def lw_enc : Nat → List (List (Nat × Nat) × List (Nat × Nat)) → List Nat
  | _, [] => []
  | o, c :: t => lw_cl o c ++ lw_enc (o + (lw_cl o c).length) t
def lw_wf (law : List (List (Nat × Nat) × List (Nat × Nat))) : Prop := ∀ c ∈ law, (c.1 = [] ∨ le_ok 60 c.1 [] [true]) ∧ le_ok 60 c.2 [] [false]
def sfx (code : List Nat) (o : Nat) (l : List Nat) : Prop := ∀ m w, l[m]? = some w → code[o + m]? = some w
theorem sfx_app {code : List Nat} {o : Nat} {a b : List Nat} (h : sfx code o (a ++ b)) : sfx code o a ∧ sfx code (o + a.length) b := by
  refine ⟨fun m w hw => h m w ?_, fun m w hw => ?_⟩
  · rw [List.getElem?_append_left (List.getElem?_eq_some_iff.mp hw).1]; exact hw
  · have := h (a.length + m) w (by rw [List.getElem?_append_right (by omega), Nat.add_sub_cancel_left]; exact hw)
    rw [Nat.add_assoc]; exact this
theorem sfx_e {code : List Nat} {o : Nat} {its : List (Nat × Nat)} (h : sfx code o (lw_e its)) : ∀ m x, its[m]? = some x → code[o + m]? = some (x.1 + 16 * x.2) := by
  intro m x hx
  exact h m _ (by rw [lw_e, List.getElem?_map, hx]; rfl)
theorem lw_e_len (its : List (Nat × Nat)) : (lw_e its).length = its.length := by simp [lw_e]
theorem lV1 {b : Bool} {s : List Int} (h : lV [b] s) : ∃ x, s = [x] ∧ lo_in x := by
  obtain ⟨x, t, rfl, h1, h2, h3⟩ := lV_head h
  cases t with
  | nil => exact ⟨x, rfl, h1⟩
  | cons _ _ => exact absurd h3 (by simp [lV])
/-- the word at a place -/
theorem w_at {σ u : ax_S} {i j c v : Nat} {code : List Nat} (hi : i < 4) (h45 : σ.1 4 5 = nI i) (hC : lcC σ i code) (hf : fo lwS u σ) (hcode : code[j]? = some (c + 16 * v)) (hc : c < 16) :
    ¬ ((u.1 20 (Int32.toNatClampNeg (u.1 4 5))) ≤ nI j) ∧ vp_in (u.1 4 5) 4 ∧ vp_in (nI (i * 240) + nI j) 960 ∧ ((u.1 19 (Int32.toNatClampNeg (nI (i * 240) + nI j))) &&& (15 : Int32)) = nI c ∧ ((u.1 19 (Int32.toNatClampNeg (nI (i * 240) + nI j))) >>> ((4 : Int32) &&& 31)) = nI v ∧ j < 240 ∧ c + 16 * v < 1000000 := by
  have hjl : j < code.length := (List.getElem?_eq_some_iff.mp hcode).1
  obtain ⟨hw, hwb⟩ := hC.2.2 j _ hcode
  have hcl := hC.2.1
  have u45 : u.1 4 5 = nI i := by rw [hf.1 4 5 (by unfold lwS; omega)]; exact h45
  have e19 : u.1 19 (Int32.toNatClampNeg (nI (i * 240) + nI j)) = nI (c + 16 * v) := by
    rw [n_add, n_tn (i * 240 + j), hf.1 19 _ (by unfold lwS; omega)]; exact hw
  refine ⟨?_, by rw [u45]; exact n_in _ _, by rw [n_add]; exact n_in _ _, by rw [e19]; exact n_and15 c v hc, by rw [e19]; exact n_shr4 c v hc, by omega, hwb⟩
  rw [u45, n_tn i, hf.1 20 i (by unfold lwS; omega), hC.1]
  exact nI_ge hjl (by omega)
set_option maxHeartbeats 1000000 in
/-- behind a sum: the answer -/
theorem w_answer {d : Nat} (hd : 2 ≤ d) {σ u : ax_S} {i j : Nat} {code : List Nat} {x : Int} (hi : i < 4) (h45 : σ.1 4 5 = nI i) (hC : lcC σ i code) (hcode : code[j]? = some 13) (hE : lE σ u [x]) {Q : Option ax_V → ax_S → Prop} (hQ : ∀ u', fo lwS u' σ → Q (some (ax_i (zI x))) u') :
    ax_W shC (d + 1) mX7_worth Q 36 [some (ax_r 4), some (ax_i (nI (i * 240))), some (ax_i (nI j)), none, none, none, none] [] u := by
  obtain ⟨hn, i1, i3, e1, e2, hj, -⟩ := w_at (c := 13) (v := 0) hi h45 hC hE.1 hcode (by omega)
  refine s_X7_worth_36 (by omega) u _ _ i1 (fun z => absurd z hn) (fun _ => i3) (fun _ z => absurd (by rw [e1]; rfl) z) (fun _ z => absurd (by rw [e1]; rfl) z) (fun _ z => absurd (by rw [e1]; rfl) z) (fun _ z => absurd (by rw [e1]; rfl) z) (fun _ z => absurd (by rw [e1]; rfl) z) (fun _ z => absurd (by rw [e1]; rfl) z) (fun _ _ => ?_)
  obtain ⟨hE2, hv⟩ := lE_pop hE
  refine (ct_X7_pop (by omega) (t := 0) hE.2.1 (by omega)).mono ?_
  rintro q w ⟨rfl, rfl⟩
  have hv' : u.1 22 0 = zI x := hv
  refine ⟨_, rfl, s_X7_worth_83 (by omega) _ _ ?_⟩
  rw [hv']
  exact hQ _ hE2.1
set_option maxHeartbeats 1000000 in
theorem w_clauses {d : Nat} (hd : 2 ≤ d) {σ : ax_S} {i : Nat} {code : List Nat} {lt : Nat → Int} (hi : i < 4) (h45 : σ.1 4 5 = nI i) (hC : lcC σ i code) (hlt : ∀ j, j < 6 → σ.1 21 j = zI (lt j) ∧ lo_in (lt j)) {Q : Option ax_V → ax_S → Prop} :
    ∀ (law : List (List (Nat × Nat) × List (Nat × Nat))) (o : Nat) (u : ax_S), sfx code o (lw_enc o law) → code.length = o + (lw_enc o law).length → lw_wf law → lE σ u [] → (∀ u', fo lwS u' σ → Q (some (ax_i (zI (lw_val lt law)))) u') →
      ax_W shC (d + 1) mX7_worth Q 36 [some (ax_r 4), some (ax_i (nI (i * 240))), some (ax_i (nI o)), none, none, none, none] [] u := by
  have hcl := hC.2.1
  intro law
  induction law with
  | nil =>
    intro o u hs hl hwf hE hQ
    have u45 : u.1 4 5 = nI i := by rw [hE.1.1 4 5 (by unfold lwS; omega)]; exact h45
    have hle : (u.1 20 (Int32.toNatClampNeg (u.1 4 5))) ≤ nI o := by
      rw [u45, n_tn i, hE.1.1 20 i (by unfold lwS; omega), hC.1, hl]
      exact nI_le (by simp [lw_enc]) (by simp [lw_enc] at hl; omega)
    refine s_X7_worth_36 (by omega) u _ _ (by rw [u45]; exact n_in _ _) (fun _ => hQ u hE.1) (fun z => absurd hle z) (fun z => absurd hle z) (fun z => absurd hle z) (fun z => absurd hle z) (fun z => absurd hle z) (fun z => absurd hle z) (fun z => absurd hle z) (fun z => absurd hle z)
  | cons cl t ih =>
    intro o u hs hl hwf hE hQ
    obtain ⟨cd, sm⟩ := cl
    obtain ⟨hwc, hws⟩ := hwf (cd, sm) List.mem_cons_self
    obtain ⟨hs1, hs2⟩ := sfx_app hs
    have hl2 : code.length = o + (lw_cl o (cd, sm)).length + (lw_enc (o + (lw_cl o (cd, sm)).length) t).length := by rw [hl, lw_enc, List.length_append]; omega
    -- the sum from a place on
    have sum : ∀ (p : Nat) (w : ax_S), sfx code p (lw_e sm ++ [13]) → lE σ w [] → lw_val lt ((cd, sm) :: t) = (le_run lt sm []).headD 0 → ax_W shC (d + 1) mX7_worth Q 36 [some (ax_r 4), some (ax_i (nI (i * 240))), some (ax_i (nI p)), none, none, none, none] [] w := by
      intro p w hsp hw hval
      obtain ⟨h1, h2⟩ := sfx_app hsp
      refine w_items hd hi h45 hC hlt sm p [] [false] [] w (sfx_e h1) hws trivial (by simp) hw (fun u' hu' => ?_)
      obtain ⟨x, hx, -⟩ := lV1 (le_all (fun j hj => (hlt j hj).2) hws (show lV [] [] from trivial))
      rw [hx] at hu'
      have h13 := h2 0 13 rfl
      rw [lw_e_len, Nat.add_zero] at h13
      refine w_answer hd hi h45 hC h13 hu' (fun u'' hf => ?_)
      have := hQ u'' hf
      rw [hval, hx] at this
      exact this
    by_cases hcd : cd = []
    · subst hcd
      have hcl1 : lw_cl o ([], sm) = lw_e sm ++ [13] := by simp [lw_cl]
      rw [hcl1] at hs1
      exact sum o u hs1 hE (by simp [lw_val])
    · have hcl1 : lw_cl o (cd, sm) = (lw_e cd ++ [12 + 16 * (o + cd.length + 1 + sm.length + 1)]) ++ (lw_e sm ++ [13]) := by simp [lw_cl, hcd]
      rw [hcl1] at hs1
      obtain ⟨g1, g2⟩ := sfx_app hs1
      obtain ⟨g3, g4⟩ := sfx_app g1
      have hwc' : le_ok 60 cd [] [true] := by rcases hwc with h | h; exact absurd h hcd; exact h
      obtain ⟨y, hy, hyin⟩ := lV1 (le_all (fun j hj => (hlt j hj).2) hwc' (show lV [] [] from trivial))
      refine w_items hd hi h45 hC hlt cd o [] [true] [] u (sfx_e g3) hwc' trivial (by simp) hE (fun u' hu' => ?_)
      rw [hy] at hu'
      have h12 := g4 0 _ rfl
      rw [lw_e_len, Nat.add_zero] at h12
      obtain ⟨hn, i1, i3, e1, e2, hj, hbig⟩ := w_at (c := 12) (v := o + cd.length + 1 + sm.length + 1) hi h45 hC hu'.1 h12 (by omega)
      refine s_X7_worth_36 (by omega) u' _ _ i1 (fun z => absurd z hn) (fun _ => i3) (fun _ _ z => absurd (by rw [e1]; rfl) z) (fun _ _ z => absurd (by rw [e1]; rfl) z) (fun _ _ z => absurd (by rw [e1]; rfl) z) (fun _ _ z => absurd (by rw [e1]; rfl) z) (fun _ _ z => absurd (by rw [e1]; rfl) z) (fun _ _ _ => ?_) (fun _ z => absurd (by rw [e1]; decide) z)
      obtain ⟨hE2, hv⟩ := lE_pop hu'
      have hv' : u'.1 22 0 = zI y := hv
      refine (ct_X7_pop (by omega) (t := 0) hu'.2.1 (by omega)).mono ?_
      rintro q w ⟨rfl, rfl⟩
      refine ⟨_, rfl, s_X7_worth_94 (by omega) _ _ _ _ _ ?_⟩
      rw [hv', e2]
      have hzero : (zI y = 0) ↔ y = 0 := zI_eq (a := y) (b := 0) hyin (by omega)
      by_cases h0 : y = 0
      · have hz : ¬ (¬ zI y = 0) := fun z => z (hzero.mpr h0)
        rw [if_neg hz, if_neg (fun z => absurd ((n_le _ _).mp z) (by omega)), show nI (o + cd.length + 1 + sm.length + 1) - (1 : Int32) + 1 = nI (o + cd.length + 1 + sm.length + 1) from by rw [show (1 : Int32) = nI 1 from rfl, n_sub (o + cd.length + 1 + sm.length + 1) 1, n_add]; congr 1]
        have hlen : o + (lw_cl o (cd, sm)).length = o + cd.length + 1 + sm.length + 1 := by
          rw [hcl1]; simp only [List.length_append, lw_e_len, List.length_cons, List.length_nil]; omega
        rw [hlen] at hs2 hl2
        refine ih _ _ hs2 hl2 (fun c hc => hwf c (List.mem_cons_of_mem _ hc)) hE2 (fun u'' hf => ?_)
        have := hQ u'' hf
        have hval : lw_val lt ((cd, sm) :: t) = lw_val lt t := by
          simp only [lw_val]
          rw [if_neg (by rw [hy]; simp [hcd, h0])]
        rw [hval] at this
        exact this
      · have hz : ¬ zI y = 0 := fun z => h0 (hzero.mp z)
        rw [if_pos hz, nI_1]
        refine sum _ _ ?_ hE2 ?_
        · have := g2
          simp only [List.length_append, lw_e_len, List.length_cons, List.length_nil] at this
          rw [show o + cd.length + 1 = o + (cd.length + (0 + 1)) by omega]; exact this
        · simp only [lw_val]
          rw [if_pos (by rw [hy]; simp [h0])]
theorem ct_X7_worth {d : Nat} (hd : 3 ≤ d) {σ : ax_S} {i lw : Nat} {law : List (List (Nat × Nat) × List (Nat × Nat))} {lt : Nat → Int} (hil : i < lw) (hlw : lw ≤ 4) (h44 : σ.1 4 4 = nI lw) (h45 : σ.1 4 5 = nI i) (hC : lcC σ i (lw_enc 0 law)) (hwf : lw_wf law) (hlt : ∀ j, j < 6 → σ.1 21 j = zI (lt j) ∧ lo_in (lt j)) :
    ax_Ct shC d mX7_worth [ax_r 4] (fun r u => r = some (ax_i (zI (lw_val lt law))) ∧ fo lwS u σ) σ := by
  obtain ⟨d, rfl⟩ : ∃ e, d = e + 1 := ⟨d - 1, by omega⟩
  refine ax_Ct.of (lv := [some (ax_r 4), none, none, none, none, none, none]) (by decide +kernel) (fun ad => Nat.le_of_ble_eq_true rfl) (fun ad => rfl) ?_
  refine s_X7_worth_0 (by omega) σ (fun z => absurd z (by rw [h45]; exact n_nn i)) (fun _ _ => ?_) (fun _ z => absurd (by rw [h45, h44]; exact (n_lt i lw).mpr hil) z)
  rw [h45, show (240 : Int32) = nI 240 from rfl, n_mul]
  have z0 : fo lwS σ σ := fo.rfl'
  have k : ∀ c j, ¬ lwS c j → (ax_ui σ 4 6 0).1 c j = σ.1 c j := fun c j hn => (z0.ui (c := 4) (i := 6) (v := 0) (Or.inr ⟨rfl, rfl⟩)).1 c j hn
  have hfo : fo lwS (ax_ui σ 4 6 0) σ := z0.ui (Or.inr ⟨rfl, rfl⟩)
  refine w_clauses (lt := lt) (by omega) (by omega) h45 hC hlt law 0 _ (fun m w hw => by rw [Nat.zero_add]; exact hw) (by omega) hwf ⟨hfo, by rw [ui_same]; rfl, fun j x hx => by simp at hx⟩ (fun u' hu => ⟨rfl, hu⟩)
