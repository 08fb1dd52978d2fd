/-! ===== the one abstract state, and how each side holds it ===== -/
/-- the tape -/
def tp_ok (tl : Nat) (tp : Nat → Nat) : Prop := tl ≤ 240 ∧ ∀ i, i < tl → 1 ≤ tp i ∧ tp i ≤ 255
def tp_C (σ : ax_S) (tl : Nat) (tp : Nat → Nat) : Prop := σ.1 1 1 = nI tl ∧ ∀ i, i < tl → σ.1 14 i = nI (tp i)
def tp_M (τ : ax_S) (tl : Nat) (tp : Nat → Nat) : Prop := τ.1 0 2 = nI tl ∧ ∀ i, i < tl → τ.1 1 i = nI (tp i)
/-- the belt: bk_ok, bk_C stand above; all slots for wires are small -/
def bk_sm (σ : ax_S) : Prop := ∀ w, w < 17 → ∃ a b c, σ.1 28 w = nI a ∧ σ.1 29 w = nI b ∧ σ.1 30 w = nI c ∧ a < 8 ∧ b < 8 ∧ c ≤ 9
def bk_M (τ : ax_S) (n : Nat) (E D : Nat → Nat) (dry : Nat) : Prop := τ.1 0 23 = nI n ∧ τ.1 0 24 = nI dry ∧ mD τ D ∧ ∀ h k, h < n → k < 4 → τ.1 14 (4 * h + k) = nI (E (4 * h + k))
/-- the log's numbers -/
def lg_ok (D : Nat → Nat) : Prop := D 87 ≤ 60 ∧ ∀ j, j < 268 → D j < 100000
/-- storms, kites; what was refused -/
def ms_C (σ : ax_S) (st ki : Nat) (rf : Nat → Int32) : Prop := σ.1 0 14 = nI st ∧ σ.1 0 15 = nI ki ∧ ∀ i, i < 5 → σ.1 13 i = rf i
def ms_M (τ : ax_S) (st ki : Nat) (rf : Nat → Int32) : Prop := τ.1 0 28 = nI st ∧ τ.1 0 29 = nI ki ∧ ∀ i, i < 5 → τ.1 16 i = rf i
/-- what is known as scorched -/
def nt_ok (n nc : Nat) (no : Nat → Nat) : Prop := nc ≤ 10 ∧ ∀ j, j < nc → no (4 * j) < n ∧ 1 ≤ no (4 * j + 1) ∧ no (4 * j + 1) ≤ 999 ∧ no (4 * j + 2) < n ∧ no (4 * j + 3) ≤ 1
def nt_C (σ : ax_S) (nc : Nat) (no : Nat → Nat) : Prop := σ.1 9 4 = nI nc ∧ ∀ j, j < nc → σ.1 39 j = nI (no (4 * j)) ∧ σ.1 40 j = nI (no (4 * j + 1)) ∧ σ.1 41 j = nI (no (4 * j + 2)) ∧ σ.1 42 j = nI (no (4 * j + 3))
def nt_M (τ : ax_S) (nc : Nat) (no : Nat → Nat) : Prop := τ.1 0 46 = nI nc ∧ ∀ j, j < nc → τ.1 23 j = nI (no (4 * j)) ∧ τ.1 24 j = nI (no (4 * j + 1)) ∧ τ.1 25 j = nI (no (4 * j + 2)) ∧ τ.1 26 j = nI (no (4 * j + 3))
/-- the tests: sort and answer; in how many cases -/
def ts_a (te : Nat → Nat) (j : Nat) : Nat := if te (2 * j + 1) = 1 then 8 - te (2 * j) else 10 - (8 - te (2 * j))
def ts_b (te : Nat → Nat) (j : Nat) : Nat := if te (2 * j + 1) = 1 then (if te (2 * j) = 0 then 3 else if te (2 * j) = 1 then 1 else 5) else 10 - (if te (2 * j) = 0 then 3 else if te (2 * j) = 1 then 1 else 5)
def ts_p (f : Nat → Nat) : Nat → Nat
  | 0 => 1
  | k + 1 => ts_p f k * f k
def ts_ok (tc : Nat) (te : Nat → Nat) : Prop := tc ≤ 12 ∧ ∀ j, j < tc → te (2 * j) ≤ 2 ∧ te (2 * j + 1) ≤ 1
def ts_C (σ : ax_S) (tc : Nat) (te : Nat → Nat) : Prop := σ.1 0 16 = nI tc ∧ σ.2 0 17 = lN (ts_p (ts_a te) tc) ∧ σ.2 0 18 = lN (ts_p (ts_b te) tc)
def ts_M (τ : ax_S) (tc : Nat) (te : Nat → Nat) : Prop := τ.1 0 50 = nI tc ∧ ∀ j, j < tc → τ.1 28 j = nI (te (2 * j)) ∧ τ.1 29 j = nI (te (2 * j + 1))
/-- the log in the class's ring, T told -/
def lg_C (ring : Nat → Int32) (T : Nat) (D : Nat → Nat) : Prop := D 87 = min 60 T ∧ ∀ i k, i < D 87 → k < 3 → ring ((T - 1 - i) % 128 * 3 + k) = nI (D (88 + 3 * (D 87 - 1 - i) + k))
/-- a row of the class's that keeps a belt -/
def pk_C (row : Nat → Int32) (b n : Nat) (D : Nat → Nat) : Prop :=
  (∀ h, h < n → row (b + h) = nI (D h) ∧ row (b + 8 + h) = nI (D (8 + h))) ∧
  (∀ w, w < 16 → ∃ x y z c, row (b + 16 + w) = nI (x + 8 * y + 64 * z + 1024 * c) ∧ x < 8 ∧ y < 8 ∧ z ≤ 9 ∧ c ≤ 1 ∧ (w < D 84 → x = bk_w D w 0 ∧ y = bk_w D w 1 ∧ z = bk_w D w 2 ∧ c = bk_w D w 3) ∧ (D 84 ≤ w → c = 0)) ∧
  row (b + 32) = nI (D 84) ∧ row (b + 33) = nI (D 85) ∧ row (b + 34) = nI (D 86)
/-- where act e of a is kept in the ring of rows, nx the next -/
def hi_b (nx a e : Nat) : Nat := 36 * ((nx + 40 - a + e) % 40)
def hi_ok (n a : Nat) (E : Nat → Nat) (dry : Nat) (H : Nat → Nat → Nat) : Prop := a ≤ 40 ∧ ∀ e, e < a → bk_ok n E (H e) dry ∧ lg_ok (H e)
/-- told ahead of act e: each act tells one more at most -/
def hi_te (a T : Nat) (te : Nat → Nat) : Prop := (∀ e, e + 1 < a → te e ≤ te (e + 1) ∧ te (e + 1) ≤ te e + 1) ∧ ∀ e, e + 1 = a → te e ≤ T ∧ T ≤ te e + 1
def hi_X (σ : ax_S) (n a T : Nat) (D : Nat → Nat) (H : Nat → Nat → Nat) (nx : Nat) (te : Nat → Nat) : Prop :=
  σ.1 7 1 = nI a ∧ σ.1 7 2 = nI nx ∧ nx < 40 ∧ σ.1 8 2 = nI T ∧ lg_C (σ.1 37) T D ∧ hi_te a T te ∧
    (∀ e, e < a → pk_C (σ.1 36) (hi_b nx a e) n (H e) ∧ σ.1 36 (hi_b nx a e + 35) = nI (te e) ∧ lg_C (σ.1 37) (te e) (H e))
/-- the acts that can be undone: T told now -/
def hi_C (σ : ax_S) (n a T : Nat) (D : Nat → Nat) (H : Nat → Nat → Nat) : Prop := ∃ (nx : Nat) (te : Nat → Nat), hi_X σ n a T D H nx te
def hi_M (τ : ax_S) (a : Nat) (H : Nat → Nat → Nat) : Prop := τ.1 0 37 = nI a ∧ ∀ e j, e < a → j < 268 → τ.1 21 (268 * e + j) = nI (H e j)
/-- the image -/
def im_ok (n im : Nat) (E : Nat → Nat) (dry : Nat) (I : Nat → Nat) : Prop := im ≤ 1 ∧ (im = 1 → bk_ok n E I dry ∧ lg_ok I)
def im_C (σ : ax_S) (n im : Nat) (I : Nat → Nat) : Prop := σ.1 0 13 = nI im ∧ (im = 1 → pk_C (σ.1 12) 0 n I ∧ σ.1 8 3 = nI (I 87) ∧ ∀ i k, i < I 87 → k < 3 → σ.1 38 (i * 3 + k) = nI (I (88 + 3 * (I 87 - 1 - i) + k)))
def im_M (τ : ax_S) (im : Nat) (I : Nat → Nat) : Prop := τ.1 0 52 = nI im ∧ (im = 1 → ∀ j, j < 268 → τ.1 30 j = nI (I j))
/-- both hold one state, behind j calls -/
def RR (j : Nat) (σ τ : ax_S) : Prop :=
  ∃ (tl : Nat) (tp : Nat → Nat) (n : Nat) (E D : Nat → Nat) (dry lw ho : Nat) (L : Nat → List (List (Nat × Nat) × List (Nat × Nat))) (st ki : Nat) (rf : Nat → Int32) (nc : Nat) (no : Nat → Nat) (tc : Nat) (te : Nat → Nat) (a T : Nat) (H : Nat → Nat → Nat) (im : Nat) (I : Nat → Nat),
    (tp_ok tl tp ∧ bk_ok n E D dry ∧ lg_ok D ∧ lwok lw ho L ∧ st ≤ 9 ∧ ki ≤ 9 ∧ nt_ok n nc no ∧ ts_ok tc te ∧ hi_ok n a E dry H ∧ im_ok n im E dry I ∧ T ≤ 60 * (j + 1)) ∧
    (tp_C σ tl tp ∧ bk_C σ n E D dry ∧ bk_sm σ ∧ lwC σ lw ho L ∧ ms_C σ st ki rf ∧ nt_C σ nc no ∧ ts_C σ tc te ∧ hi_C σ n a T D H ∧ im_C σ n im I) ∧
    (tp_M τ tl tp ∧ bk_M τ n E D dry ∧ lwM τ lw ho L ∧ ms_M τ st ki rf ∧ nt_M τ nc no ∧ ts_M τ tc te ∧ hi_M τ a H ∧ im_M τ im I)
/-- a call of both with the same arguments -/
def good (j : Nat) (C M : ax_M) (As : List ax_V) (σ τ : ax_S) : Prop :=
  ∃ (v : Int32) (PC PM : ax_S → Prop), ax_Ct shC 60 C (ax_r 0 :: As) (fun r u => r = some (ax_i v) ∧ PC u) σ ∧ ax_Ct shM 60 M (ax_r 0 :: As) (fun r u => r = some (ax_i v) ∧ PM u) τ ∧ ∀ u w, PC u → PM w → RR (j + 1) u w
/-- cells that hold nothing of the state -/
def scC (c i : Nat) : Prop := scr c i ∨ c = 11 ∨ c = 44 ∨ c = 10 ∨ c = 43 ∨ (c = 1 ∧ (i = 2 ∨ i = 3)) ∨ c = 2 ∨ c = 3 ∨ c = 15 ∨ c = 16 ∨ c = 17 ∨ c = 18
def scM (c i : Nat) : Prop := scm c i ∨ c = 22 ∨ c = 27 ∨ (c = 0 ∧ (i = 0 ∨ i = 3 ∨ i = 4 ∨ i = 5 ∨ i = 20 ∨ i = 21 ∨ i = 40 ∨ i = 41)) ∨ c = 11 ∨ c = 12 ∨ c = 13
theorem pk_C.to {r r' : Nat → Int32} {b n : Nat} {D : Nat → Nat} (h : pk_C r b n D) (hr : ∀ j, r' j = r j) : pk_C r' b n D := by
  have : r' = r := funext hr
  rw [this]; exact h
theorem CR_scC {σ u : ax_S} (hf : fo scC u σ) {tl : Nat} {tp : Nat → Nat} {n : Nat} {E D : Nat → Nat} {dry lw ho : Nat} {L : Nat → List (List (Nat × Nat) × List (Nat × Nat))} {st ki : Nat} {rf : Nat → Int32} {nc : Nat} {no : Nat → Nat} {tc : Nat} {te : Nat → Nat} {a T : Nat} {H : Nat → Nat → Nat} {im : Nat} {I : Nat → Nat}
    (h : tp_C σ tl tp ∧ bk_C σ n E D dry ∧ bk_sm σ ∧ lwC σ lw ho L ∧ ms_C σ st ki rf ∧ nt_C σ nc no ∧ ts_C σ tc te ∧ hi_C σ n a T D H ∧ im_C σ n im I) :
    tp_C u tl tp ∧ bk_C u n E D dry ∧ bk_sm u ∧ lwC u lw ho L ∧ ms_C u st ki rf ∧ nt_C u nc no ∧ ts_C u tc te ∧ hi_C u n a T D H ∧ im_C u n im I := by
  have k : ∀ c i, ¬ scC c i → u.1 c i = σ.1 c i := hf.1
  have k2 : u.2 = σ.2 := hf.2
  have e : ∀ c, (∀ i, ¬ scC c i) → u.1 c = σ.1 c := fun c hc => funext fun i => k c i (hc i)
  have n5 : ∀ c, (c = 0 ∨ c = 5 ∨ c = 7 ∨ c = 8 ∨ c = 9 ∨ c = 12 ∨ c = 13 ∨ c = 14 ∨ c = 19 ∨ c = 20 ∨ c = 23 ∨ c = 24 ∨ c = 25 ∨ c = 26 ∨ c = 27 ∨ c = 28 ∨ c = 29 ∨ c = 30 ∨ c = 31 ∨ c = 36 ∨ c = 37 ∨ c = 38 ∨ c = 39 ∨ c = 40 ∨ c = 41 ∨ c = 42) → u.1 c = σ.1 c := fun c hc => e c (fun i => by unfold scC scr; omega)
  have k11 : u.1 1 1 = σ.1 1 1 := k 1 1 (by unfold scC scr; omega)
  have k44 : u.1 4 4 = σ.1 4 4 := k 4 4 (by unfold scC scr; omega)
  have k45 : u.1 4 5 = σ.1 4 5 := k 4 5 (by unfold scC scr; omega)
  obtain ⟨h1, h2, h3, h4, h5, h6, h7, h8, h9⟩ := h
  refine ⟨?_, ?_, ?_, ?_, ?_, ?_, ?_, ?_, ?_⟩
  · unfold tp_C at h1 ⊢; rw [k11, n5 14 (by omega)]; exact h1
  · unfold bk_C at h2 ⊢; rw [n5 5 (by omega), n5 23 (by omega), n5 24 (by omega), n5 25 (by omega), n5 26 (by omega), n5 27 (by omega), n5 28 (by omega), n5 29 (by omega), n5 30 (by omega), n5 31 (by omega)]; exact h2
  · unfold bk_sm at h3 ⊢; rw [n5 28 (by omega), n5 29 (by omega), n5 30 (by omega)]; exact h3
  · unfold lwC lcC at h4 ⊢; rw [k44, k45, n5 19 (by omega), n5 20 (by omega)]; exact h4
  · unfold ms_C at h5 ⊢; rw [n5 0 (by omega), n5 13 (by omega)]; exact h5
  · unfold nt_C at h6 ⊢; rw [n5 9 (by omega), n5 39 (by omega), n5 40 (by omega), n5 41 (by omega), n5 42 (by omega)]; exact h6
  · unfold ts_C at h7 ⊢; rw [n5 0 (by omega), k2]; exact h7
  · unfold hi_C hi_X at h8 ⊢; rw [n5 7 (by omega), n5 8 (by omega), n5 36 (by omega), n5 37 (by omega)]; exact h8
  · unfold im_C at h9 ⊢; rw [n5 0 (by omega), n5 8 (by omega), n5 12 (by omega), n5 38 (by omega)]; exact h9
theorem MR_scM {τ w : ax_S} (hf : fo scM w τ) {tl : Nat} {tp : Nat → Nat} {n : Nat} {E D : Nat → Nat} {dry lw ho : Nat} {L : Nat → List (List (Nat × Nat) × List (Nat × Nat))} {st ki : Nat} {rf : Nat → Int32} {nc : Nat} {no : Nat → Nat} {tc : Nat} {te : Nat → Nat} {a : Nat} {H : Nat → Nat → Nat} {im : Nat} {I : Nat → Nat}
    (h : tp_M τ tl tp ∧ bk_M τ n E D dry ∧ lwM τ lw ho L ∧ ms_M τ st ki rf ∧ nt_M τ nc no ∧ ts_M τ tc te ∧ hi_M τ a H ∧ im_M τ im I) :
    tp_M w tl tp ∧ bk_M w n E D dry ∧ lwM w lw ho L ∧ ms_M w st ki rf ∧ nt_M w nc no ∧ ts_M w tc te ∧ hi_M w a H ∧ im_M w im I := by
  have k : ∀ c i, ¬ scM c i → w.1 c i = τ.1 c i := hf.1
  have n5 : ∀ c, (c = 1 ∨ c = 2 ∨ c = 3 ∨ c = 5 ∨ c = 6 ∨ c = 7 ∨ c = 8 ∨ c = 14 ∨ c = 15 ∨ c = 16 ∨ c = 21 ∨ c = 23 ∨ c = 24 ∨ c = 25 ∨ c = 26 ∨ c = 28 ∨ c = 29 ∨ c = 30) → w.1 c = τ.1 c := fun c hc => funext fun i => k c i (by unfold scM scm; omega)
  have k0 : ∀ i, (i = 2 ∨ i = 13 ∨ i = 23 ∨ i = 24 ∨ i = 27 ∨ i = 28 ∨ i = 29 ∨ i = 37 ∨ i = 46 ∨ i = 50 ∨ i = 52) → w.1 0 i = τ.1 0 i := fun i hi => k 0 i (by unfold scM scm; omega)
  obtain ⟨h1, h2, h3, h4, h5, h6, h7, h8⟩ := h
  refine ⟨?_, ?_, ?_, ?_, ?_, ?_, ?_, ?_⟩
  · unfold tp_M at h1 ⊢; rw [k0 2 (by omega), n5 1 (by omega)]; exact h1
  · unfold bk_M mD at h2 ⊢; rw [k0 23 (by omega), k0 24 (by omega), n5 15 (by omega), n5 14 (by omega)]; exact h2
  · unfold lwM at h3 ⊢
    rw [k0 13 (by omega), k0 27 (by omega), n5 5 (by omega)]
    exact ⟨h3.1, h3.2.1, fun i hi => ⟨(h3.2.2 i hi).1, (h3.2.2 i hi).2.to (fun c j hc => by rw [n5 c (by omega)])⟩⟩
  · unfold ms_M at h4 ⊢; rw [k0 28 (by omega), k0 29 (by omega), n5 16 (by omega)]; exact h4
  · unfold nt_M at h5 ⊢; rw [k0 46 (by omega), n5 23 (by omega), n5 24 (by omega), n5 25 (by omega), n5 26 (by omega)]; exact h5
  · unfold ts_M at h6 ⊢; rw [k0 50 (by omega), n5 28 (by omega), n5 29 (by omega)]; exact h6
  · unfold hi_M at h7 ⊢; rw [k0 37 (by omega), n5 21 (by omega)]; exact h7
  · unfold im_M at h8 ⊢; rw [k0 52 (by omega), n5 30 (by omega)]; exact h8
theorem RR.up {j : Nat} {σ τ u w : ax_S} (h : RR j σ τ) (hu : fo scC u σ) (hw : fo scM w τ) : RR (j + 1) u w := by
  obtain ⟨tl, tp, n, E, D, dry, lw, ho, L, st, ki, rf, nc, no, tc, te, a, T, H, im, I, ⟨o1, o2, o3, o4, o5, o6, o7, o8, o9, o10, o11⟩, hc, hm⟩ := h
  exact ⟨tl, tp, n, E, D, dry, lw, ho, L, st, ki, rf, nc, no, tc, te, a, T, H, im, I, ⟨o1, o2, o3, o4, o5, o6, o7, o8, o9, o10, by omega⟩, CR_scC hu hc, MR_scM hw hm⟩
/-- a question: both answer alike and change nothing of the state -/
theorem good.ask {j : Nat} {C M : ax_M} {As : List ax_V} {σ τ : ax_S} (h : RR j σ τ) (v : Int32) (hC : ax_Ct shC 60 C (ax_r 0 :: As) (fun r u => r = some (ax_i v) ∧ fo scC u σ) σ) (hM : ax_Ct shM 60 M (ax_r 0 :: As) (fun r u => r = some (ax_i v) ∧ fo scM u τ) τ) : good j C M As σ τ :=
  ⟨v, _, _, hC, hM, fun _ _ hu hw => h.up hu hw⟩
