/-! ===== what the start gives ===== -/
theorem kn_all {args : Array Value} {s : State} (hts : ∀ w ∈ ax_U, w.before args s = true) : ∃ (dC : Nat → ClassId) (dI : Nat → Nat → Nat), ∀ (k : Nat) (q : vw_C), vwCl[k]? = some q → u_Kn s q.1 q.2.1 q.2.2 (dC k) (dI k) := by
  obtain ⟨c0, i0, h0⟩ := u_known (C := RX0) (T := TX0) (N := 15) (n := 15) hts ax_cu0 (hts _ in_X0)
  obtain ⟨c1, i1, h1⟩ := u_known (C := RX1) (T := TX1) (N := 7) (n := 7) hts ax_cu1 (hts _ in_X1)
  obtain ⟨c2, i2, h2⟩ := u_known (C := RX2) (T := TX2) (N := 4) (n := 4) hts ax_cu2 (hts _ in_X2)
  obtain ⟨c3, i3, h3⟩ := u_known (C := RX3) (T := TX3) (N := 5) (n := 5) hts ax_cu3 (hts _ in_X3)
  obtain ⟨c4, i4, h4⟩ := u_known (C := RX4) (T := TX4) (N := 4) (n := 4) hts ax_cu4 (hts _ in_X4)
  obtain ⟨c5, i5, h5⟩ := u_known (C := RX5) (T := TX5) (N := 3) (n := 3) hts ax_cu5 (hts _ in_X5)
  obtain ⟨c6, i6, h6⟩ := u_known (C := RX6) (T := TX6) (N := 3) (n := 3) hts ax_cu6 (hts _ in_X6)
  obtain ⟨c7, i7, h7⟩ := u_known (C := RX7) (T := TX7) (N := 7) (n := 7) hts ax_cu7 (hts _ in_X7)
  obtain ⟨c8, i8, h8⟩ := u_known (C := RX8) (T := TX8) (N := 9) (n := 9) hts ax_cu8 (hts _ in_X8)
  obtain ⟨c9, i9, h9⟩ := u_known (C := RX9) (T := TX9) (N := 4) (n := 4) hts ax_cu9 (hts _ in_X9)
  obtain ⟨c10, i10, h10⟩ := u_known (C := RX10) (T := TX10) (N := 2) (n := 2) hts ax_cu10 (hts _ in_X10)
  obtain ⟨c11, i11, h11⟩ := u_known (C := RX11) (T := TX11) (N := 20) (n := 20) hts ax_cu11 (hts _ in_X11)
  obtain ⟨c12, i12, h12⟩ := u_known (C := RX12) (T := TX12) (N := 53) (n := 53) hts ax_cu12 (hts _ in_X12)
  have h0 : ∀ k : Nat, ∃ z : ClassId × (Nat → Nat), ∀ q : vw_C, vwCl[k]? = some q → u_Kn s q.1 q.2.1 q.2.2 z.1 z.2 := by
    intro k
    match k with
    | 0 => exact ⟨(c0, i0), fun q hq => by cases hq; exact h0⟩
    | 1 => exact ⟨(c1, i1), fun q hq => by cases hq; exact h1⟩
    | 2 => exact ⟨(c2, i2), fun q hq => by cases hq; exact h2⟩
    | 3 => exact ⟨(c3, i3), fun q hq => by cases hq; exact h3⟩
    | 4 => exact ⟨(c4, i4), fun q hq => by cases hq; exact h4⟩
    | 5 => exact ⟨(c5, i5), fun q hq => by cases hq; exact h5⟩
    | 6 => exact ⟨(c6, i6), fun q hq => by cases hq; exact h6⟩
    | 7 => exact ⟨(c7, i7), fun q hq => by cases hq; exact h7⟩
    | 8 => exact ⟨(c8, i8), fun q hq => by cases hq; exact h8⟩
    | 9 => exact ⟨(c9, i9), fun q hq => by cases hq; exact h9⟩
    | 10 => exact ⟨(c10, i10), fun q hq => by cases hq; exact h10⟩
    | 11 => exact ⟨(c11, i11), fun q hq => by cases hq; exact h11⟩
    | 12 => exact ⟨(c12, i12), fun q hq => by cases hq; exact h12⟩
    | k + 13 => exact ⟨(c0, i0), fun q hq => absurd (List.getElem?_eq_some_iff.mp hq).1 (by show ¬ k + 13 < 13; omega)⟩
  obtain ⟨f, hf⟩ := Classical.axiomOfChoice h0
  exact ⟨fun k => (f k).1, fun k => (f k).2, fun k q hq => hf k q hq⟩
theorem ac_int {args : Array Value} {s : State} (h : (Cond.arrayClass .int).before args s = true) : ∃ c : ClassId, ArrOfT s c .int ∧ va_RA s c .int := by
  obtain ⟨c, k, comp, h1, h2, h3⟩ := Cond.arrayClass_spec (args := args) (first := s) (o := none) (s := s) (idx := []) h
  exact ⟨c, fun n z => ⟨fun k h => (by cases h), k, h2, comp, h3⟩, h1⟩
theorem ac_bool {args : Array Value} {s : State} (h : (Cond.arrayClass .boolean).before args s = true) : ∃ c : ClassId, ArrOfT s c .boolean ∧ va_RA s c .boolean := by
  obtain ⟨c, k, comp, h1, h2, h3⟩ := Cond.arrayClass_spec (args := args) (first := s) (o := none) (s := s) (idx := []) h
  exact ⟨c, fun n z => ⟨fun k h => (by cases h), k, h2, comp, h3⟩, h1⟩
theorem st_one {args : Array Value} {s : State} {C n d : String} {ty : FieldType} {A : Nat → Prop} (xs : List Int32) (hA : ∀ a : Nat, a < s.heap.size → ¬ A a) (hl : (Cond.laysStatic C n d).before args s = true) (hi : (Cond.initialized C).before args s = true) (harr : (Cond.arrayOf (.static C n d) ty).before args s = true) (hlen : (Cond.eq (.length (.static C n d)) (.int (Int32.ofNat xs.length))).before args s = true) (hel : ∀ j : Nat, j < xs.length → (Cond.eq (.elem (.static C n d) (.int (Int32.ofNat j))) (.int (xs.getD j 0))).before args s = true) (hN : xs.length < 2 ^ 31) :
    ∃ t : Nat, va_Z C n d (.ref t) A s s.heap ∧ va_T ty t xs.length (fun j => .int (xs.getD j 0)) A s s.heap := by
  obtain ⟨t, h1, h2⟩ := va_Tof (f := fun j => .int (xs.getD j 0)) (A := A) hN harr (va_eqt hlen) (fun j hj => va_eqt (hel j hj)) hA
  exact ⟨t, va_Zref hl hi h1 hA, h2⟩
theorem tb_in {c : Cond} (i : Nat) (h : tables_1[i]? = some c) : c ∈ lw_tbl := List.mem_append_right _ (List.mem_of_getElem? h)
abbrev flN : List Cond := flatC (Jvm.Cond.and given_1 narrow_1)
set_option maxRecDepth 20000 in
theorem sm_0 : ∀ j : Nat, j < 3 → Cond.eq (.elem (.static RX11 "SO_BY_STROKE" "[I") (.int (Int32.ofNat j))) (.int (([8, 7, 6] : List Int32).getD j 0)) ∈ flN := by decide +kernel
set_option maxRecDepth 20000 in
theorem sx_0 {b : Nat} {s : State} (hs : ∀ w ∈ flN, w.before #[Value.ref b] s = true) (hts : ∀ w ∈ lw_tbl, w.before #[Value.ref b] s = true) : ∃ t : Nat, va_Z RX11 "SO_BY_STROKE" "[I" (.ref t) (fun q => s.heap.size ≤ q) s s.heap ∧ va_T .int t 3 (fun j => .int (([8, 7, 6] : List Int32).getD j 0)) (fun q => s.heap.size ≤ q) s s.heap :=
  st_one [8, 7, 6] (fun a h => Nat.not_le.mpr h) (hts _ (tb_in 1068 (by decide +kernel))) (hts _ (tb_in 1 (by decide +kernel))) (hs _ (by decide +kernel)) (hs _ (by decide +kernel)) (fun j hj => hs _ (sm_0 j hj)) (by decide)
set_option maxRecDepth 20000 in
theorem sm_1 : ∀ j : Nat, j < 3 → Cond.eq (.elem (.static RX11 "SO_BY_SPARK" "[I") (.int (Int32.ofNat j))) (.int (([3, 1, 5] : List Int32).getD j 0)) ∈ flN := by decide +kernel
set_option maxRecDepth 20000 in
theorem sx_1 {b : Nat} {s : State} (hs : ∀ w ∈ flN, w.before #[Value.ref b] s = true) (hts : ∀ w ∈ lw_tbl, w.before #[Value.ref b] s = true) : ∃ t : Nat, va_Z RX11 "SO_BY_SPARK" "[I" (.ref t) (fun q => s.heap.size ≤ q) s s.heap ∧ va_T .int t 3 (fun j => .int (([3, 1, 5] : List Int32).getD j 0)) (fun q => s.heap.size ≤ q) s s.heap :=
  st_one [3, 1, 5] (fun a h => Nat.not_le.mpr h) (hts _ (tb_in 1070 (by decide +kernel))) (hts _ (tb_in 1 (by decide +kernel))) (hs _ (by decide +kernel)) (hs _ (by decide +kernel)) (fun j hj => hs _ (sm_1 j hj)) (by decide)
set_option maxRecDepth 20000 in
theorem sm_2 : ∀ j : Nat, j < 9 → Cond.eq (.elem (.static RX1 "LETTERS" "[C") (.int (Int32.ofNat j))) (.int (([99, 100, 120, 116, 108, 107, 97, 98, 115] : List Int32).getD j 0)) ∈ flN := by decide +kernel
set_option maxRecDepth 20000 in
theorem sx_2 {b : Nat} {s : State} (hs : ∀ w ∈ flN, w.before #[Value.ref b] s = true) (hts : ∀ w ∈ lw_tbl, w.before #[Value.ref b] s = true) : ∃ t : Nat, va_Z RX1 "LETTERS" "[C" (.ref t) (fun q => s.heap.size ≤ q) s s.heap ∧ va_T .char t 9 (fun j => .int (([99, 100, 120, 116, 108, 107, 97, 98, 115] : List Int32).getD j 0)) (fun q => s.heap.size ≤ q) s s.heap :=
  st_one [99, 100, 120, 116, 108, 107, 97, 98, 115] (fun a h => Nat.not_le.mpr h) (hts _ (tb_in 465 (by decide +kernel))) (hts _ (tb_in 3 (by decide +kernel))) (hs _ (by decide +kernel)) (hs _ (by decide +kernel)) (fun j hj => hs _ (sm_2 j hj)) (by decide)
set_option maxRecDepth 20000 in
theorem sm_3 : ∀ j : Nat, j < 9 → Cond.eq (.elem (.static RX1 "LOWEST" "[I") (.int (Int32.ofNat j))) (.int (([0, 0, 0, 1, 1, 0, 0, 0, 0] : List Int32).getD j 0)) ∈ flN := by decide +kernel
set_option maxRecDepth 20000 in
theorem sx_3 {b : Nat} {s : State} (hs : ∀ w ∈ flN, w.before #[Value.ref b] s = true) (hts : ∀ w ∈ lw_tbl, w.before #[Value.ref b] s = true) : ∃ t : Nat, va_Z RX1 "LOWEST" "[I" (.ref t) (fun q => s.heap.size ≤ q) s s.heap ∧ va_T .int t 9 (fun j => .int (([0, 0, 0, 1, 1, 0, 0, 0, 0] : List Int32).getD j 0)) (fun q => s.heap.size ≤ q) s s.heap :=
  st_one [0, 0, 0, 1, 1, 0, 0, 0, 0] (fun a h => Nat.not_le.mpr h) (hts _ (tb_in 483 (by decide +kernel))) (hts _ (tb_in 3 (by decide +kernel))) (hs _ (by decide +kernel)) (hs _ (by decide +kernel)) (fun j hj => hs _ (sm_3 j hj)) (by decide)
set_option maxRecDepth 20000 in
theorem sm_4 : ∀ j : Nat, j < 9 → Cond.eq (.elem (.static RX1 "HIGHEST" "[I") (.int (Int32.ofNat j))) (.int (([99, 9, 20, 9, 99, 3, 7, 7, 9] : List Int32).getD j 0)) ∈ flN := by decide +kernel
set_option maxRecDepth 20000 in
theorem sx_4 {b : Nat} {s : State} (hs : ∀ w ∈ flN, w.before #[Value.ref b] s = true) (hts : ∀ w ∈ lw_tbl, w.before #[Value.ref b] s = true) : ∃ t : Nat, va_Z RX1 "HIGHEST" "[I" (.ref t) (fun q => s.heap.size ≤ q) s s.heap ∧ va_T .int t 9 (fun j => .int (([99, 9, 20, 9, 99, 3, 7, 7, 9] : List Int32).getD j 0)) (fun q => s.heap.size ≤ q) s s.heap :=
  st_one [99, 9, 20, 9, 99, 3, 7, 7, 9] (fun a h => Nat.not_le.mpr h) (hts _ (tb_in 485 (by decide +kernel))) (hts _ (tb_in 3 (by decide +kernel))) (hs _ (by decide +kernel)) (hs _ (by decide +kernel)) (fun j hj => hs _ (sm_4 j hj)) (by decide)
set_option maxRecDepth 20000 in
theorem sm_5 : ∀ j : Nat, j < 9 → Cond.eq (.elem (.static RX1 "WITHOUT" "[I") (.int (Int32.ofNat j))) (.int (([20, 0, 0, 3, 20, 0, 0, 1, 0] : List Int32).getD j 0)) ∈ flN := by decide +kernel
set_option maxRecDepth 20000 in
theorem sx_5 {b : Nat} {s : State} (hs : ∀ w ∈ flN, w.before #[Value.ref b] s = true) (hts : ∀ w ∈ lw_tbl, w.before #[Value.ref b] s = true) : ∃ t : Nat, va_Z RX1 "WITHOUT" "[I" (.ref t) (fun q => s.heap.size ≤ q) s s.heap ∧ va_T .int t 9 (fun j => .int (([20, 0, 0, 3, 20, 0, 0, 1, 0] : List Int32).getD j 0)) (fun q => s.heap.size ≤ q) s s.heap :=
  st_one [20, 0, 0, 3, 20, 0, 0, 1, 0] (fun a h => Nat.not_le.mpr h) (hts _ (tb_in 447 (by decide +kernel))) (hts _ (tb_in 3 (by decide +kernel))) (hs _ (by decide +kernel)) (hs _ (by decide +kernel)) (fun j hj => hs _ (sm_5 j hj)) (by decide)
set_option maxRecDepth 20000 in
theorem sm_6 : ∀ j : Nat, j < 6 → Cond.eq (.elem (.static RX6 "LETTERS" "[C") (.int (Int32.ofNat j))) (.int (([112, 116, 108, 107, 110, 100] : List Int32).getD j 0)) ∈ flN := by decide +kernel
set_option maxRecDepth 20000 in
theorem sx_6 {b : Nat} {s : State} (hs : ∀ w ∈ flN, w.before #[Value.ref b] s = true) (hts : ∀ w ∈ lw_tbl, w.before #[Value.ref b] s = true) : ∃ t : Nat, va_Z RX6 "LETTERS" "[C" (.ref t) (fun q => s.heap.size ≤ q) s s.heap ∧ va_T .char t 6 (fun j => .int (([112, 116, 108, 107, 110, 100] : List Int32).getD j 0)) (fun q => s.heap.size ≤ q) s s.heap :=
  st_one [112, 116, 108, 107, 110, 100] (fun a h => Nat.not_le.mpr h) (hts _ (tb_in 525 (by decide +kernel))) (hts _ (tb_in 4 (by decide +kernel))) (hs _ (by decide +kernel)) (hs _ (by decide +kernel)) (fun j hj => hs _ (sm_6 j hj)) (by decide)
theorem st_all {b : Nat} {s : State} (hs : ∀ w ∈ flN, w.before #[Value.ref b] s = true) (hts : ∀ w ∈ lw_tbl, w.before #[Value.ref b] s = true) : ∃ st : Nat → Nat, ∀ (k : Nat) (r : String × String × String × FieldType × List Int32), ax_st[k]? = some r →
    va_Z r.1 r.2.1 r.2.2.1 (.ref (st k)) (fun q => s.heap.size ≤ q) s s.heap ∧ va_T r.2.2.2.1 (st k) r.2.2.2.2.length (fun j => .int (r.2.2.2.2.getD j 0)) (fun q => s.heap.size ≤ q) s s.heap := by
  obtain ⟨t0, h0⟩ := sx_0 hs hts
  obtain ⟨t1, h1⟩ := sx_1 hs hts
  obtain ⟨t2, h2⟩ := sx_2 hs hts
  obtain ⟨t3, h3⟩ := sx_3 hs hts
  obtain ⟨t4, h4⟩ := sx_4 hs hts
  obtain ⟨t5, h5⟩ := sx_5 hs hts
  obtain ⟨t6, h6⟩ := sx_6 hs hts
  have g : ∀ k : Nat, ∃ t : Nat, ∀ r : String × String × String × FieldType × List Int32, ax_st[k]? = some r → va_Z r.1 r.2.1 r.2.2.1 (.ref t) (fun q => s.heap.size ≤ q) s s.heap ∧ va_T r.2.2.2.1 t r.2.2.2.2.length (fun j => .int (r.2.2.2.2.getD j 0)) (fun q => s.heap.size ≤ q) s s.heap := by
    intro k
    match k with
    | 0 => exact ⟨t0, fun r hr => by cases hr; exact h0⟩
    | 1 => exact ⟨t1, fun r hr => by cases hr; exact h1⟩
    | 2 => exact ⟨t2, fun r hr => by cases hr; exact h2⟩
    | 3 => exact ⟨t3, fun r hr => by cases hr; exact h3⟩
    | 4 => exact ⟨t4, fun r hr => by cases hr; exact h4⟩
    | 5 => exact ⟨t5, fun r hr => by cases hr; exact h5⟩
    | 6 => exact ⟨t6, fun r hr => by cases hr; exact h6⟩
    | k + 7 => exact ⟨0, fun r hr => absurd (List.getElem?_eq_some_iff.mp hr).1 (by show ¬ k + 7 < 7; omega)⟩
  obtain ⟨f, hf⟩ := Classical.axiomOfChoice g
  exact ⟨f, hf⟩
set_option maxRecDepth 20000 in
theorem hsQ_in : ∀ w ∈ hsQ, w ∈ lw_tbl := by decide +kernel
set_option maxRecDepth 20000 in
theorem hs_all {b : Nat} {s : State} (hs : ∀ w ∈ flN, w.before #[Value.ref b] s = true) (hts : ∀ w ∈ lw_tbl, w.before #[Value.ref b] s = true) : ∃ sa sb : Nat, hsX (fun q => s.heap.size ≤ q) sa sb s s.heap := by
  obtain ⟨sa, _, _, _, q1, -⟩ := Cond.exactly_spec (args := #[Value.ref b]) (first := s) (o := none) (s := s) (idx := []) (t := .string RX11 165) (cls := "java/lang/String") (hs _ (by decide +kernel))
  obtain ⟨sb, _, _, _, q2, -⟩ := Cond.exactly_spec (args := #[Value.ref b]) (first := s) (o := none) (s := s) (idx := []) (t := .string RX11 198) (cls := "java/lang/String") (hs _ (by decide +kernel))
  exact ⟨sa, sb, vk_R.of (hts _ (tb_in 1123 (by decide +kernel))) q1, vk_R.of (hts _ (tb_in 1150 (by decide +kernel))) q2, vx_Zqof (hts _ (tb_in 1111 (by decide +kernel))) (hts _ (tb_in 17 (by decide +kernel))) (hs _ (by decide +kernel)) (fun a h => Nat.not_le.mpr h), vx_Zqof (hts _ (tb_in 1113 (by decide +kernel))) (hts _ (tb_in 17 (by decide +kernel))) (hs _ (by decide +kernel)) (fun a h => Nat.not_le.mpr h), fun w hw => va_Nw.of (hsQ_t w hw) (hts w (hsQ_in w hw))⟩
set_option maxRecDepth 20000 in
theorem ne_in : ∀ w ∈ ax_ne, w ∈ lw_tbl := by decide +kernel
theorem ne_t : ∀ w ∈ ax_ne, w.onTables = true := by decide +kernel
set_option maxRecDepth 20000 in
theorem nl_in : ∀ w ∈ nlC, w ∈ lw_tbl := by decide +kernel
theorem nl_t : ∀ w ∈ nlC, w.onTables = true := by decide +kernel
theorem nl_warm {s U : State} (hW : s.WarmedH U.vm) (h : ∀ w ∈ nlC, va_Nw w s) : ∀ w ∈ nlC, va_Nw w U := fun w hw => by
  have h3 := h w hw
  simp only [nlC, List.mem_cons, List.not_mem_nil, or_false] at hw
  rcases hw with rfl | rfl | rfl | rfl | rfl | rfl | rfl <;> exact va_Nw.warmM hW h3
theorem va_P_l {D : va_G} {cl : List vw_C} {a b : va_W} {H : Heap} (h : va_P D cl (a ++ b) H) : va_P D cl a H := fun k q hq => h k q (by rw [List.getElem?_append_left (List.getElem?_eq_some_iff.mp hq).1]; exact hq)
theorem app_r {a b : va_W} {k : Nat} {q : Nat × va_E} (hq : b[k]? = some q) : (a ++ b)[a.length + k]? = some q := by
  rw [List.getElem?_append_right (by omega), Nat.add_sub_cancel_left]
  exact hq
theorem va_P_r {D : va_G} {cl : List vw_C} {a b : va_W} {H : Heap} (h : va_P D cl (a ++ b) H) : va_P D cl b H := fun k q hq => h (a.length + k) q (app_r hq)
theorem app_l {a b : va_W} {k : Nat} {q : Nat × va_E} (hq : a[k]? = some q) : (a ++ b)[k]? = some q := by
  rw [List.getElem?_append_left (List.getElem?_eq_some_iff.mp hq).1]; exact hq
theorem va_D_l {A : Nat → Prop} {a b : va_W} (h : va_D A (a ++ b)) : va_D A a := ⟨fun i j p q hp hq => h.1 i j p q (app_l hp) (app_l hq), fun k q hq => h.2 k q (app_l hq)⟩
theorem va_D_r {A : Nat → Prop} {a b : va_W} (h : va_D A (a ++ b)) : va_D A b := ⟨fun i j p q hp hq e => by
  have := h.1 _ _ p q (app_r hp) (app_r hq) e
  omega, fun k q hq => h.2 _ q (app_r hq)⟩
theorem va_D_x {A : Nat → Prop} {a b : va_W} (h : va_D A (a ++ b)) {i j : Nat} {p q : Nat × va_E} (hp : a[i]? = some p) (hq : b[j]? = some q) : p.1 ≠ q.1 := fun e => by
  have h1 := h.1 i (a.length + j) p q (app_l hp) (app_r hq) e
  have := (List.getElem?_eq_some_iff.mp hp).1
  omega
theorem ax_w_ex {sh : List ax_H} {G : ax_G} {σ : ax_S} {i : Nat} (hi : i < sh.length) : ∃ e, (ax_w sh G σ)[i]? = some (G.1 i, e) := ⟨_, ax_w_at (List.getElem?_eq_getElem hi)⟩
def adx (ad st : Nat → Nat) : Nat → Nat := fun k => if k < 1000 then ad k else st (k - 1000)
theorem adx_st (ad st : Nat → Nat) (k : Nat) : adx ad st (1000 + k) = st k := by
  unfold adx
  rw [if_neg (by omega), Nat.add_sub_cancel_left]
set_option maxRecDepth 20000 in
theorem adx_C (ad st : Nat → Nat) (cI cZ : ClassId) (σ : ax_S) : ax_w shC (adx ad st, cI, cZ) σ = ax_w shC (ad, cI, cZ) σ := by
  rw [ax_w2, ax_w2]
  rfl
set_option maxRecDepth 20000 in
theorem adx_M (ad st : Nat → Nat) (cI cZ : ClassId) (σ : ax_S) : ax_w shM (adx ad st, cI, cZ) σ = ax_w shM (ad, cI, cZ) σ := by
  rw [ax_w2, ax_w2]
  rfl
theorem sgC_0 : ∀ c i : Nat, ¬ (c = 4 ∧ i = 5) → ¬ (c = 0 ∧ i = 14) → sgC.1 c i = 0 := by
  intro c i h1 h2
  unfold sgC
  dsimp only
  split
  · dsimp only
    split
    · exact absurd ⟨rfl, rfl⟩ h2
    · rfl
  · dsimp only
    split
    · exact absurd ⟨rfl, rfl⟩ h1
    · rfl
  · rfl
theorem sgM_0 : ∀ c i : Nat, ¬ (c = 0 ∧ (i = 27 ∨ i = 28)) → sgM.1 c i = 0 := by
  intro c i h1
  unfold sgM
  dsimp only
  split
  · dsimp only
    split
    · exact absurd ⟨rfl, Or.inl rfl⟩ h1
    · exact absurd ⟨rfl, Or.inr rfl⟩ h1
    · rfl
  · rfl
theorem RR_0 : RR 0 sgC sgM := RR_start rfl rfl sgC_0 rfl rfl rfl rfl sgM_0
theorem ik_L8 : Cond.classLink RL 8 RX11 ∈ ax_U := ax_in 22 (by decide +kernel) rfl
theorem ik_L16 : Cond.classLink RL 16 RX12 ∈ ax_U := ax_in 1151 (by decide +kernel) rfl
theorem il_L15 : Cond.methodLink RL 15 yX11_init ∈ ax_U := ax_in 24 (by decide +kernel) rfl
theorem il_L18 : Cond.methodLink RL 18 yX12_init ∈ ax_U := ax_in 1153 (by decide +kernel) rfl
