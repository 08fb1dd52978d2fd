/-! ===== constructors: the layer ===== -/
def cnC (M : ax_M) (dC : Nat → ClassId) (dI : Nat → Nat → Nat) (cI cZ : ClassId) (A : Nat → Prop) (p : Program) (s : State) (m : MethodId) (args : Array Value) (meth : Method) (c : Code) : Prop :=
  p.tables.exec = Jvm.exec ∧ c.code = M.2.1 ∧ c.maxLocals = M.2.2.1 ∧ s.vm.findClass M.1.cls = some m.cls ∧ (∀ w ∈ ax_U, w.before args s = true) ∧ va_K (dC, dI) vwCl [(cI, .int), (cZ, .boolean)] s ∧ (∀ q, s.heap.size ≤ q → A q) ∧ meth.name = "<init>" ∧ meth.locks = false ∧ meth.sig.returnType = none
def cnP (dC : Nat → ClassId) (dI : Nat → Nat → Nat) (cI cZ : ClassId) (sz : Nat) (av : List Value) (x : Nat × va_E) (nl : List Cond) : Array Value → State → Prop :=
  va_Pc av (fun U => U.heap.size = sz ∧ va_P (dC, dI) vwCl [x] U.heap ∧ va_K (dC, dI) vwCl [(cI, .int), (cZ, .boolean)] U ∧ ∀ w ∈ nl, va_Nw w U)
theorem cnP_blind {dC : Nat → ClassId} {dI : Nat → Nat → Nat} {cI cZ : ClassId} {sz : Nat} {av : List Value} {x : Nat × va_E} {nl : List Cond} (hn : nl.all Cond.onTables = true) : FrameBlind (cnP dC dI cI cZ sz av x nl) := by
  intro a U g mk h
  obtain ⟨h1, h2, h3, h4, h5⟩ := h
  exact ⟨h1, h2, h3, va_K.moved (u := U) (U := U.calling g mk a) (Vm.Alike.refl U.vm) h4, fun w hw => va_Nw.same (u := U) (U := U.calling g mk a) (List.all_eq_true.mp hn w hw) rfl (h5 w hw)⟩
theorem vd1 {x : Nat × va_E} {A : Nat → Prop} (h : A x.1) : va_D A [x] := by
  refine ⟨fun i j p q hp hq _ => ?_, fun k q hq => ?_⟩
  · have h1 := (List.getElem?_eq_some_iff.mp hp).1
    have h2 := (List.getElem?_eq_some_iff.mp hq).1
    simp only [List.length_cons, List.length_nil] at h1 h2
    omega
  · rw [List.mem_singleton.mp (List.mem_of_getElem? hq)]
    exact h
theorem cn_of {l : Launch} {M : ax_M} {rm : Room} {dC : Nat → ClassId} {dI : Nat → Nat → Nat} {cI cZ : ClassId} {sz : Nat} {x : Nat × va_E} {av : List Value} {nl : List Cond} {mc ms : Nat} (B : Nat → State → Prop) (hy : plainName M.1.cls = true) (hret : M.2.2.2 = none) (hnm : M.1.name = "<init>") (hlen : (lg_sl av).length ≤ M.2.2.1)
    (body : ∀ (p : Program) (e : Env) (s : State) (m : MethodId) (below : List Frame) (meth : Method) (c : Code) (ls : Array Slot), cnC M dC dI cI cZ (va_A [x] s.heap.size) p s m av.toArray meth c → (∀ w ∈ nl, va_Nw w s) → lv_has ls M.2.2.1 (lv_args 0 av) → va_P (dC, dI) vwCl [x] s.heap → va_D (va_A [x] s.heap.size) [x] → va_S (va_A [x] s.heap.size) s.heap s.heap [] →
      W p l e rm s m av.toArray below meth c s.heap [] 0 0 (MQ below (va_Qv (fun _ : Unit => True) (fun _ t => B s.heap.size t) (va_A [x] s.heap.size)) av.toArray s mc ms (va_A [x] s.heap.size)) (F0 m 0 ls [])) :
    Met l M.1 (ax_ws M) rm (cnP dC dI cI cZ sz av x nl) (va_Qv (fun _ : Unit => True) (fun _ t => B sz t) (va_A [x] sz)) mc ms (va_A [x] sz) := by
  refine Met.ofW (cc := M.2.1) (maxL := M.2.2.1) (ret := M.2.2.2) hy rfl ?_
  intro p e s m args below meth c s₁ Bd hml hv
  obtain ⟨rfl, hsz, hP, hK, hX⟩ := hv
  subst hsz
  have hts := atoms_spec (ws := ax_ws M) Bd.pre
  have hl := lv_entry av (n := M.2.2.1) hlen
  rw [lg_entry_eq]
  exact body p e s m below meth c _ ⟨Bd.exec, Bd.bytes, hml, findClass_of_methodNamed Bd.named, fun w h => hts w (List.mem_cons_of_mem _ h), hK, fun q h => Or.inr h, (name_of_methodNamed Bd.named Bd.method).1.trans hnm, Bd.notSynchronized, Bd.returns.trans hret⟩ hX hl hP (vd1 (Or.inl ⟨0, x.2, rfl⟩)) va_S.rf
section CN
variable {M : ax_M} {dC : Nat → ClassId} {dI : Nat → Nat → Nat} {cI cZ : ClassId} {A : Nat → Prop} {p : Program} {l : Launch} {e : Env} {R : Room} {s : State} {m : MethodId} {args : Array Value} {below : List Frame} {meth : Method} {c : Code} {H : Heap} {locs : List Loc} {cells slots : Nat} {Q : State → Prop} {ls : Array Slot} {rest : List Value} {pc h0 ci idx : Nat} {fs : List Value} {ws : va_W} {CC : String} {T : u_T} {N : Nat} {ty : FieldType}
/-- putfield of the new thing's own -/
theorem cn_pf {v : Value} (C : cnC M dC dI cI cZ A p s m args meth c) (hP : va_P (dC, dI) vwCl ((h0, .inr (ci, fs)) :: ws) H) (hD : va_D A ((h0, .inr (ci, fs)) :: ws)) (hS : va_S A s.heap H locs) (hc : vwCl[ci]? = some (CC, T, N)) (k : Nat) (hk : k < N) (hlk : Cond.fieldLink M.1.cls idx (T k).1 (T k).2.1 (T k).2.2.1 ∈ ax_U) (hdecl : (T k).1 = M.1.cls) (hty : parseFieldDescriptor (T k).2.2.1 = some ty) (hn : narrow ty v = v) (hfit : fits ty v = true) (hl : k < fs.length) (hd : decode M.2.1 pc = .ok (.putfield idx, 3))
    (kk : ∀ (H1 : Heap) (locs1 : List Loc), va_P (dC, dI) vwCl ((h0, .inr (ci, fs.set k v)) :: ws) H1 → va_D A ((h0, .inr (ci, fs.set k v)) :: ws) → va_S A s.heap H1 locs1 → W p l e R s m args below meth c H1 locs1 cells slots Q (F0 m (pc + 3) ls rest)) : W p l e R s m args below meth c H locs cells slots Q (F0 m pc ls (v :: .ref h0 :: rest)) := by
  obtain ⟨c1, c2, c3, c4, c5, c6, c7, c8, c9, c10⟩ := C
  obtain ⟨h1, ⟨ty0, h2⟩, h3⟩ := ax_cl ci CC T N hc
  cases hf : (T k).2.2.2 with
  | false => exact va_put (v := v) c1 c2 c5 h1 ty0 h2 h3 c4 c6 hP hD hS 0 rfl hc k hk (c5 _ hlk) (fun _ h9 => h9) hf hty hn hfit hl hd (fun H1 locs1 hP1 hD1 hS1 => kk H1 locs1 hP1 hD1 hS1)
  | true => exact va_putF (v := v) c1 c2 c5 h1 ty0 h2 h3 c4 c6 hP hD hS 0 rfl hc k hk (c5 _ hlk) (fun _ h9 => h9) hf c8 hdecl hty hn hfit hl hd (fun H1 locs1 hP1 hD1 hS1 => kk H1 locs1 hP1 hD1 hS1)
theorem cn_ai : Cond.arrayClass .int ∈ ax_U := ax_in 55 (by decide +kernel) rfl
theorem cn_az : Cond.arrayClass .boolean ∈ ax_U := ax_in 1317 (by decide +kernel) rfl
theorem cn_aj : Cond.arrayClass .long ∈ ax_U := ax_in 1834 (by decide +kernel) rfl
/-- a new int array into a field -/
theorem cn_int {n : Int32} {N' : Nat} (C : cnC M dC dI cI cZ A p s m args meth c) (hP : va_P (dC, dI) vwCl ((h0, .inr (ci, fs)) :: ws) H) (hD : va_D A ((h0, .inr (ci, fs)) :: ws)) (hS : va_S A s.heap H locs) (hc : vwCl[ci]? = some (CC, T, N)) (k : Nat) (hk : k < N) (hlk : Cond.fieldLink M.1.cls idx (T k).1 (T k).2.1 (T k).2.2.1 ∈ ax_U) (hdecl : (T k).1 = M.1.cls) (hty : parseFieldDescriptor (T k).2.2.1 = some ty) (hn9 : ∀ a, narrow ty (.ref a) = .ref a) (hfit : ∀ a, fits ty (.ref a) = true) (hl : k < fs.length)
    (hn : ¬ n < 0) (hN : n.toNatClampNeg = N') (hby : N' * componentBytes .int ≤ 536870912) (hcells : cells + 1 ≤ R.cells) (hslots : slots + N' ≤ R.slots) (dn : decode M.2.1 pc = .ok (.newarray .int, 2)) (dp : decode M.2.1 (pc + 2) = .ok (.putfield idx, 3))
    (kk : ∀ (q : Nat) (H1 : Heap) (locs1 : List Loc), va_P (dC, dI) vwCl ((h0, .inr (ci, fs.set k (.ref q))) :: (ws ++ [(q, .inl (cI, N', .inl (fun _ => 0)))])) H1 → va_D A ((h0, .inr (ci, fs.set k (.ref q))) :: (ws ++ [(q, .inl (cI, N', .inl (fun _ => 0)))])) → va_S A s.heap H1 locs1 → W p l e R s m args below meth c H1 locs1 (cells + 1) (slots + N') Q (F0 m (pc + 2 + 3) ls rest)) : W p l e R s m args below meth c H locs cells slots Q (F0 m pc ls (.int n :: .ref h0 :: rest)) := by
  have C0 := C
  obtain ⟨c1, c2, c3, c4, c5, c6, c7, c8, c9, c10⟩ := C
  refine va_newa (atype := .int) (a0 := (N', .inl (fun _ => 0))) c1 c2 (c5 _ cn_ai) rfl c6 hP hD hS c7 (fun _ => rfl) hn hN hby hcells hslots dn (fun q cA H1 hK1 hP1 hD1 hS1 => ?_)
  have e1 : s.vm.findClass ("[" ++ FieldType.int.toString) = some cA := (hK1.2 2 (cA, .int) rfl).2
  have e2 : s.vm.findClass ("[" ++ FieldType.int.toString) = some cI := (c6.2 0 (cI, .int) rfl).2
  cases Option.some.inj (e1.symm.trans e2)
  exact cn_pf C0 hP1 hD1 hS1 hc k hk hlk hdecl hty (hn9 q) (hfit q) hl dp (fun H2 locs2 hP2 hD2 hS2 => kk q H2 locs2 hP2 hD2 hS2)
/-- a new boolean array into a field -/
theorem cn_bool {n : Int32} {N' : Nat} (C : cnC M dC dI cI cZ A p s m args meth c) (hP : va_P (dC, dI) vwCl ((h0, .inr (ci, fs)) :: ws) H) (hD : va_D A ((h0, .inr (ci, fs)) :: ws)) (hS : va_S A s.heap H locs) (hc : vwCl[ci]? = some (CC, T, N)) (k : Nat) (hk : k < N) (hlk : Cond.fieldLink M.1.cls idx (T k).1 (T k).2.1 (T k).2.2.1 ∈ ax_U) (hdecl : (T k).1 = M.1.cls) (hty : parseFieldDescriptor (T k).2.2.1 = some ty) (hn9 : ∀ a, narrow ty (.ref a) = .ref a) (hfit : ∀ a, fits ty (.ref a) = true) (hl : k < fs.length)
    (hn : ¬ n < 0) (hN : n.toNatClampNeg = N') (hby : N' * componentBytes .boolean ≤ 536870912) (hcells : cells + 1 ≤ R.cells) (hslots : slots + N' ≤ R.slots) (dn : decode M.2.1 pc = .ok (.newarray .boolean, 2)) (dp : decode M.2.1 (pc + 2) = .ok (.putfield idx, 3))
    (kk : ∀ (q : Nat) (H1 : Heap) (locs1 : List Loc), va_P (dC, dI) vwCl ((h0, .inr (ci, fs.set k (.ref q))) :: (ws ++ [(q, .inl (cZ, N', .inl (fun _ => 0)))])) H1 → va_D A ((h0, .inr (ci, fs.set k (.ref q))) :: (ws ++ [(q, .inl (cZ, N', .inl (fun _ => 0)))])) → va_S A s.heap H1 locs1 → W p l e R s m args below meth c H1 locs1 (cells + 1) (slots + N') Q (F0 m (pc + 2 + 3) ls rest)) : W p l e R s m args below meth c H locs cells slots Q (F0 m pc ls (.int n :: .ref h0 :: rest)) := by
  have C0 := C
  obtain ⟨c1, c2, c3, c4, c5, c6, c7, c8, c9, c10⟩ := C
  refine va_newa (atype := .boolean) (a0 := (N', .inl (fun _ => 0))) c1 c2 (c5 _ cn_az) rfl c6 hP hD hS c7 (fun _ => rfl) hn hN hby hcells hslots dn (fun q cA H1 hK1 hP1 hD1 hS1 => ?_)
  have e1 : s.vm.findClass ("[" ++ FieldType.boolean.toString) = some cA := (hK1.2 2 (cA, .boolean) rfl).2
  have e2 : s.vm.findClass ("[" ++ FieldType.boolean.toString) = some cZ := (c6.2 1 (cZ, .boolean) rfl).2
  cases Option.some.inj (e1.symm.trans e2)
  exact cn_pf C0 hP1 hD1 hS1 hc k hk hlk hdecl hty (hn9 q) (hfit q) hl dp (fun H2 locs2 hP2 hD2 hS2 => kk q H2 locs2 hP2 hD2 hS2)
end CN
/-- behind a call over the last cell: the others stay -/
theorem jn_left {ws : va_W} {x : Nat × va_E} {k : Nat} {q : Nat × va_E} (hq : ws[k]? = some q) : (ws ++ [x])[k]? = some q := by
  rw [List.getElem?_append_left (List.getElem?_eq_some_iff.mp hq).1]; exact hq
theorem jn_last {ws : va_W} {x : Nat × va_E} : (ws ++ [x])[ws.length]? = some x := by simp
theorem jn_F {A : Nat → Prop} {ws : va_W} {x : Nat × va_E} {H0 H : Heap} {locs : List Loc} (hD : va_D A (ws ++ [x])) (hS : va_S A H0 H locs) (hA : ∀ q, H0.size ≤ q → A q) : ∀ q, va_A [x] H.size q → A q := by
  intro q h
  rcases h with ⟨k, e, h⟩ | h
  · have hx : (q, e) = x := List.mem_singleton.mp (List.mem_of_getElem? h)
    have := hD.2 ws.length x jn_last
    rw [← hx] at this
    exact this
  · exact hA q (Nat.le_trans hS.1 h)
theorem jn {A : Nat → Prop} {D : va_G} {cl : List vw_C} {ws w1 : va_W} {x : Nat × va_E} {H H1 : Heap} (hP : va_P D cl (ws ++ [x]) H) (hD : va_D A (ws ++ [x])) (hk : ∀ q : Nat, q < H.size → ¬ va_A [x] H.size q → H1[q]? = H[q]?) (hF : ∀ q, va_A [x] H.size q → A q) (hP1 : va_P D cl w1 H1) (hD1 : va_D (va_A [x] H.size) w1) : va_P D cl (ws ++ w1) H1 ∧ va_D A (ws ++ w1) := by
  have apart : ∀ (k : Nat) (q : Nat × va_E), ws[k]? = some q → q.1 < H.size ∧ ¬ va_A [x] H.size q.1 := by
    intro k q hq
    have hl := (hP k q (jn_left hq)).lt
    refine ⟨hl, fun h => ?_⟩
    rcases h with ⟨k2, e, h⟩ | h
    · have hx : (q.1, e) = x := List.mem_singleton.mp (List.mem_of_getElem? h)
      have h3 := hD.1 k ws.length q x (jn_left hq) jn_last (by rw [← hx])
      have := (List.getElem?_eq_some_iff.mp hq).1
      omega
    · omega
  refine ⟨va_P.app (fun k q hq => (hP k q (jn_left hq)).kept (hk q.1 (apart k q hq).1 (apart k q hq).2)) hP1, va_D.app ⟨fun i j p q hp hq => hD.1 i j p q (jn_left hp) (jn_left hq), fun k q hq => hD.2 k q (jn_left hq)⟩ (hD1.weaken (fun k q _ h => hF q.1 h)) (fun i j x y hx hy hxy => ?_)⟩
  exact (apart i x hx).2 (by rw [hxy]; exact hD1.2 j y hy)
/-- a list by its places, unfolded -/
def mpi {α β : Type} (f : Nat → α → β) : Nat → List α → List β
  | _, [] => []
  | i, a :: t => f i a :: mpi f (i + 1) t
theorem mpi_at {α β : Type} (f : Nat → α → β) : ∀ (l : List α) (i k : Nat), (mpi f i l)[k]? = (l[k]?).map (f (i + k)) := by
  intro l
  induction l with
  | nil => intro i k; rfl
  | cons a t ih =>
    intro i k
    cases k with
    | zero => rfl
    | succ k =>
      show (mpi f (i + 1) t)[k]? = _
      rw [ih, List.getElem?_cons_succ, show i + 1 + k = i + (k + 1) by omega]
theorem mpi_eq {α β : Type} (f : Nat → α → β) (l : List α) : l.mapIdx f = mpi f 0 l := by
  apply List.ext_getElem?
  intro k
  rw [mpi_at, List.getElem?_mapIdx, Nat.zero_add]
def ax_e2 (G : ax_G) (σ : ax_S) (c : Nat) (h : ax_H) : va_E := match h with
  | Sum.inl o => Sum.inr (o.1, mpi (fun j f => ax_fv G.1 σ c j f) 0 o.2)
  | Sum.inr a => Sum.inl (if a.1 then G.2.2 else G.2.1, a.2, Sum.inl (σ.1 c))
theorem ax_w2 (sh : List ax_H) (G : ax_G) (σ : ax_S) : ax_w sh G σ = mpi (fun c h => (G.1 c, ax_e2 G σ c h)) 0 sh := by
  unfold ax_w
  rw [← mpi_eq]
  congr 1
  funext c h
  rcases h with o | a
  · show (G.1 c, (Sum.inr (o.1, o.2.mapIdx (fun j f => ax_fv G.1 σ c j f)) : va_E)) = _
    rw [mpi_eq]
    rfl
  · rfl
theorem ax_D_of {sh : List ax_H} {G : ax_G} {σ : ax_S} {A : Nat → Prop} (h : va_D A (ax_w sh G σ)) : ax_I sh G ∧ ∀ i, i < sh.length → A (G.1 i) := by
  have at' : ∀ i, i < sh.length → ∃ e, (ax_w sh G σ)[i]? = some (G.1 i, e) := fun i hi => ⟨_, ax_w_at (List.getElem?_eq_getElem hi)⟩
  refine ⟨fun i j hi hj he => ?_, fun i hi => ?_⟩
  · obtain ⟨e1, h1⟩ := at' i hi
    obtain ⟨e2, h2⟩ := at' j hj
    exact h.1 i j _ _ h1 h2 he
  · obtain ⟨e1, h1⟩ := at' i hi
    exact h.2 i _ h1
