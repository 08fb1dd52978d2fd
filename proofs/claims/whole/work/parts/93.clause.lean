/-! ===== a clause of a law ===== -/
abbrev tCl : Type := List (Nat × Nat) × List (Nat × Nat)
def fla : List tCl → List (Nat × Nat)
  | [] => []
  | c :: t => c.1 ++ (c.2 ++ fla t)
theorem fla_app : ∀ a b : List tCl, fla (a ++ b) = fla a ++ fla b
  | [], b => rfl
  | c :: a, b => by rw [List.cons_append, fla, fla, fla_app a b, List.append_assoc, List.append_assoc]
theorem fla_n : ∀ a : List tCl, lm_n a = (fla a).length
  | [] => rfl
  | c :: a => by rw [lm_n, fla, List.length_append, List.length_append, fla_n a]; omega
theorem enc_app : ∀ (a b : List tCl) (o : Nat), lw_enc o (a ++ b) = lw_enc o a ++ lw_enc (o + (lw_enc o a).length) b
  | [], b, o => rfl
  | c :: a, b, o => by
    rw [List.cons_append, lw_enc, lw_enc, enc_app a b, List.append_assoc, List.length_append, Nat.add_assoc]
theorem enc_snoc (a : List tCl) (c : tCl) : lw_enc 0 (a ++ [c]) = lw_enc 0 a ++ lw_cl (lw_enc 0 a).length c := by
  rw [enc_app, Nat.zero_add, lw_enc, lw_enc, List.append_nil]
/-- the tables of clauses -/
def TB (u : ax_S) (n0 : Nat) : Nat → Nat → List tCl → Prop
  | _, _, [] => True
  | q, o, c :: t => u.1 6 (140 * n0 + q) = nI o ∧ u.1 7 (140 * n0 + q) = nI (o + c.1.length) ∧ u.1 8 (140 * n0 + q) = nI (o + c.1.length + c.2.length) ∧ TB u n0 (q + 1) (o + c.1.length + c.2.length) t
theorem TB.snoc {u : ax_S} {n0 : Nat} {c : tCl} : ∀ {a : List tCl} {q o : Nat}, TB u n0 q o a → TB u n0 (q + a.length) (o + (fla a).length) [c] → TB u n0 q o (a ++ [c])
  | [], q, o, _, h => h
  | b :: a, q, o, h1, h2 => by
    refine ⟨h1.1, h1.2.1, h1.2.2.1, TB.snoc h1.2.2.2 ?_⟩
    rw [fla, List.length_append, List.length_append, List.length_cons] at h2
    have e1 : q + 1 + a.length = q + (a.length + 1) := by omega
    have e2 : o + b.1.length + b.2.length + (fla a).length = o + (b.1.length + (b.2.length + (fla a).length)) := by omega
    rw [e1, e2]; exact h2
theorem TB.to {u w : ax_S} {n0 : Nat} : ∀ {a : List tCl} {q o : Nat}, TB u n0 q o a → (∀ c i, (c = 6 ∨ c = 7 ∨ c = 8) → i < 140 * n0 + q + a.length → w.1 c i = u.1 c i) → TB w n0 q o a
  | [], q, o, _, _ => trivial
  | b :: a, q, o, h1, h2 => by
    rw [List.length_cons] at h2
    refine ⟨by rw [h2 6 _ (by omega) (by omega)]; exact h1.1, by rw [h2 7 _ (by omega) (by omega)]; exact h1.2.1, by rw [h2 8 _ (by omega) (by omega)]; exact h1.2.2.1, TB.to h1.2.2.2 (fun c i hc hi => h2 c i hc (by omega))⟩
theorem lmC_of {u : ax_S} {n0 : Nat} {cs : List (Nat × Nat)} (hP : mP n0 u cs) : ∀ {a : List tCl} {q o : Nat} {pre : List (Nat × Nat)}, cs = pre ++ fla a → o = pre.length → TB u n0 q o a → lmC u n0 q o a
  | [], q, o, pre, _, _, _ => trivial
  | c :: a, q, o, pre, h1, h2, h3 => by
    rw [fla] at h1
    refine ⟨h3.1, h3.2.1, h3.2.2.1, fun m x hx => ?_, fun m x hx => ?_, ?_⟩
    · have := hP.2.2 (o + m) x (by
        rw [h1, List.getElem?_append_right (by omega), show o + m - pre.length = m by omega, List.getElem?_append_left (List.getElem?_eq_some_iff.mp hx).1]; exact hx)
      rw [Nat.add_assoc]; exact this
    · have := hP.2.2 (o + c.1.length + m) x (by
        rw [h1, List.getElem?_append_right (by omega), show o + c.1.length + m - pre.length = c.1.length + m by omega, List.getElem?_append_right (by omega), show c.1.length + m - c.1.length = m by omega, List.getElem?_append_left (List.getElem?_eq_some_iff.mp hx).1]; exact hx)
      rw [Nat.add_assoc]; exact this
    · refine lmC_of hP (pre := pre ++ (c.1 ++ c.2)) ?_ ?_ h3.2.2.2
      · rw [h1, List.append_assoc, List.append_assoc]
      · rw [List.length_append, List.length_append]; omega
def lmG (n0 c i : Nat) : Prop := lmF n0 c i ∨ ((c = 6 ∨ c = 7 ∨ c = 8) ∧ 140 * n0 ≤ i) ∨ (c = 5 ∧ i = n0)
def mW (T : List Nat) (n0 : Nat) (u : ax_S) (r : List Nat) (law : List tCl) : Prop := mLs T n0 u r 0 (fla law) ∧ u.1 5 n0 = nI law.length ∧ TB u n0 0 0 law
def mX (T : List Nat) (n0 : Nat) (u : ax_S) (r : List Nat) (law : List tCl) (cs : List (Nat × Nat)) : Prop := mLs T n0 u r 0 cs ∧ u.1 5 n0 = nI law.length ∧ TB u n0 0 0 law ∧ u.1 6 (140 * n0 + law.length) = nI (fla law).length
theorem mX.to {T : List Nat} {n0 : Nat} {u w : ax_S} {r r' : List Nat} {law : List tCl} {cs cs' : List (Nat × Nat)} (h : mX T n0 u r law cs) (hf : fo (lmF n0) w u) (h2 : mLs T n0 w r' 0 cs') : mX T n0 w r' law cs' :=
  ⟨h2, by rw [hf.1 5 n0 (by unfold lmF; omega)]; exact h.2.1, h.2.2.1.to (fun c i hc _ => hf.1 c i (by unfold lmF; omega)), by rw [hf.1 6 _ (by unfold lmF; omega)]; exact h.2.2.2⟩
theorem F_G {n0 : Nat} {w u : ax_S} (h : fo (lmF n0) w u) : fo (lmG n0) w u := h.mono (fun c i z => Or.inl z)
abbrev rC : Type := Nat ⊕ (tCl × List Nat)
def cQ2 (T : List Nat) (u : ax_S) (code : List Nat) (R : rC) (y : Option ax_V) (w : ax_S) : Prop := fo lrS w u ∧ match R with
  | Sum.inl n => y = some (ax_i 0) ∧ w.1 1 2 = nI (T.length - n)
  | Sum.inr p => y = some (ax_i 1) ∧ cS T w p.2 (code ++ lw_cl code.length p.1)
def wr (T : List Nat) (n : Nat) (w : ax_S) : Prop := w.1 0 4 = nI (T.length - n) ∧ ¬ w.1 0 4 = -1
def mQ2 (T : List Nat) (n0 : Nat) (u : ax_S) (law : List tCl) (R : rC) (y : Option ax_V) (w : ax_S) : Prop := y = none ∧ fo (lmG n0) w u ∧ match R with
  | Sum.inl n => wr T n w
  | Sum.inr p => mW T n0 w p.2 (law ++ [p.1])
def clw (c : tCl) : Prop := (c.1 = [] ∨ le_ok 60 c.1 [] [true]) ∧ le_ok 60 c.2 [] [false]
def PR2 (r : List Nat) (R : rC) : Prop := match R with
  | Sum.inl n => n ≤ r.length
  | Sum.inr p => clw p.1 ∧ (∀ o, (lw_cl o p.1).length + p.2.length ≤ r.length) ∧ p.1.1.length + p.1.2.length + p.2.length ≤ r.length ∧ p.2.length + 3 ≤ r.length ∧ (∀ c ∈ p.2, c ∈ r)
theorem cl_len (o : Nat) (c : tCl) : (lw_cl o c).length = (if c.1 = [] then 0 else c.1.length + 1) + (c.2.length + 1) := by
  unfold lw_cl
  rw [List.length_append, List.length_append, lw_e_len]
  split
  · rfl
  · rw [List.length_append, lw_e_len]; rfl
/-- the last writes of a clause -/
def fn1 (u : ax_S) (n0 k c q : Nat) : ax_S := ax_ui (ax_ui u 8 (140 * n0 + k) (nI c)) 5 n0 (nI (q + 1))
theorem fn_eq {u : ax_S} {n0 k q : Nat} {cs : List (Nat × Nat)} (hn : n0 ≤ 4) (hk : k < 140) (hP : mP n0 u cs) (h5 : u.1 5 n0 = nI q) : ax_ui (ax_ui u 8 (Int32.toNatClampNeg (nI (140 * n0 + k))) (u.1 4 (Int32.toNatClampNeg (u.1 0 14)))) 5 (Int32.toNatClampNeg (u.1 0 14)) (u.1 5 (Int32.toNatClampNeg (u.1 0 14)) + 1) = fn1 u n0 k cs.length q := by
  rw [hP.1, n_tn n0, h5, hP.2.1, n_tn _, nI_1]; rfl
theorem fn_eq7 {u : ax_S} {n0 k q : Nat} {cs : List (Nat × Nat)} (hn : n0 ≤ 4) (hk : k < 140) (hP : mP n0 u cs) (h5 : u.1 5 n0 = nI q) : ax_ui (ax_ui (ax_ui u 7 (Int32.toNatClampNeg (nI (140 * n0 + k))) (u.1 6 (Int32.toNatClampNeg (nI (140 * n0 + k))))) 8 (Int32.toNatClampNeg (nI (140 * n0 + k))) (u.1 4 (Int32.toNatClampNeg (u.1 0 14)))) 5 (Int32.toNatClampNeg (u.1 0 14)) (u.1 5 (Int32.toNatClampNeg (u.1 0 14)) + 1) = fn1 (ax_ui u 7 (140 * n0 + k) (u.1 6 (140 * n0 + k))) n0 k cs.length q := by
  rw [hP.1, n_tn n0, h5, hP.2.1, n_tn _, nI_1]; rfl
theorem fn_G {u v : ax_S} {n0 k c q : Nat} (h : fo (lmG n0) v u) : fo (lmG n0) (fn1 v n0 k c q) u := (h.ui (by unfold lmG; omega)).ui (by unfold lmG; omega)
theorem fn_W {T : List Nat} {n0 : Nat} {v : ax_S} {r : List Nat} {law : List tCl} {cl : tCl} {cs : List (Nat × Nat)} (h1 : mLs T n0 v r 0 cs) (hcs : cs = fla law ++ (cl.1 ++ cl.2)) (h5 : v.1 5 n0 = nI law.length) (hT : TB v n0 0 0 law) (h6 : v.1 6 (140 * n0 + law.length) = nI (fla law).length) (h7 : v.1 7 (140 * n0 + law.length) = nI ((fla law).length + cl.1.length)) : mW T n0 (fn1 v n0 law.length cs.length law.length) r (law ++ [cl]) := by
  have f : fo (fun c i => (c = 8 ∧ i = 140 * n0 + law.length) ∨ (c = 5 ∧ i = n0)) (fn1 v n0 law.length cs.length law.length) v := (fo.rfl'.ui (by omega)).ui (by omega)
  have e : cs = fla (law ++ [cl]) := by rw [hcs, fla_app, fla, fla, List.append_nil]
  refine ⟨?_, ?_, TB.snoc (hT.to (fun c i hc hi => f.1 c i (by omega))) ⟨?_, ?_, ?_, trivial⟩⟩
  · rw [← e]
    refine ⟨h1.1.to f.1 (by omega), by rw [f.1 0 4 (by omega)]; exact h1.2.1, by rw [f.1 0 5 (by omega)]; exact h1.2.2.1, ?_⟩
    exact ⟨by rw [f.1 0 14 (by omega)]; exact h1.2.2.2.1, by rw [f.1 4 n0 (by omega)]; exact h1.2.2.2.2.1, fun i x hx => by rw [f.1 2 _ (by omega), f.1 3 _ (by omega)]; exact h1.2.2.2.2.2 i x hx⟩
  · show (ax_ui _ 5 n0 _).1 5 n0 = _
    rw [ui_same, List.length_append]; rfl
  · rw [Nat.zero_add, Nat.zero_add, f.1 6 _ (by omega)]; exact h6
  · rw [Nat.zero_add, Nat.zero_add, f.1 7 _ (by omega)]; exact h7
  · rw [Nat.zero_add, Nat.zero_add]
    show (ax_ui (ax_ui v 8 (140 * n0 + law.length) (nI cs.length)) 5 n0 (nI (law.length + 1))).1 8 (140 * n0 + law.length) = _
    rw [ui_cell (by omega), ui_same, hcs, List.length_append, List.length_append, Nat.add_assoc]
