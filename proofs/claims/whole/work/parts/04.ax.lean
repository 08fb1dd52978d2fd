/-! ===== the layer: one fixed world of cells; values by cell numbers; a method's walk as a predicate over pure data ===== -/
abbrev ax_V : Type := Int32 ⊕ (Int64 ⊕ Nat)
abbrev ax_i (x : Int32) : ax_V := Sum.inl x
abbrev ax_l (x : Int64) : ax_V := Sum.inr (Sum.inl x)
abbrev ax_r (k : Nat) : ax_V := Sum.inr (Sum.inr k)
def ax_v (ad : Nat → Nat) (v : ax_V) : Value := match v with
  | Sum.inl x => Value.int x
  | Sum.inr (Sum.inl x) => Value.long x
  | Sum.inr (Sum.inr k) => Value.ref (ad k)
abbrev ax_S : Type := (Nat → Nat → Int32) × (Nat → Nat → Int64)
def ax_ui (σ : ax_S) (c i : Nat) (v : Int32) : ax_S := (fun a b => if a = c ∧ b = i then v else σ.1 a b, σ.2)
def ax_ul (σ : ax_S) (c i : Nat) (v : Int64) : ax_S := (σ.1, fun a b => if a = c ∧ b = i then v else σ.2 a b)
abbrev ax_F : Type := Option (Option Nat)
abbrev ax_H : Type := (Nat × List ax_F) ⊕ (Bool × Nat)
abbrev ax_G : Type := (Nat → Nat) × ClassId × ClassId
def ax_fv (ad : Nat → Nat) (σ : ax_S) (c j : Nat) (f : ax_F) : Value := match f with
  | none => Value.int (σ.1 c j)
  | some none => Value.long (σ.2 c j)
  | some (some k) => Value.ref (ad k)
def ax_fx (σ : ax_S) (c j : Nat) (f : ax_F) : ax_V := match f with
  | none => ax_i (σ.1 c j)
  | some none => ax_l (σ.2 c j)
  | some (some k) => ax_r k
theorem ax_fvx (ad : Nat → Nat) (σ : ax_S) (c j : Nat) (f : ax_F) : ax_fv ad σ c j f = ax_v ad (ax_fx σ c j f) := by
  rcases f with _ | _ | k <;> rfl
def ax_e (G : ax_G) (σ : ax_S) (c : Nat) (h : ax_H) : va_E := match h with
  | Sum.inl o => Sum.inr (o.1, o.2.mapIdx (fun j f => ax_fv G.1 σ c j f))
  | Sum.inr a => Sum.inl (if a.1 then G.2.2 else G.2.1, a.2, Sum.inl (σ.1 c))
def ax_w (sh : List ax_H) (G : ax_G) (σ : ax_S) : va_W := sh.mapIdx (fun c h => (G.1 c, ax_e G σ c h))
theorem ax_w_at {sh : List ax_H} {G : ax_G} {σ : ax_S} {c : Nat} {h : ax_H} (hc : sh[c]? = some h) : (ax_w sh G σ)[c]? = some (G.1 c, ax_e G σ c h) := by
  simp [ax_w, List.getElem?_mapIdx, hc]
theorem ax_w_of {sh : List ax_H} {G : ax_G} {σ : ax_S} {c : Nat} {q : Nat × va_E} (hc : (ax_w sh G σ)[c]? = some q) : c < sh.length ∧ q.1 = G.1 c := by
  simp only [ax_w, List.getElem?_mapIdx, Option.map_eq_some_iff] at hc
  obtain ⟨h, h1, h2⟩ := hc
  exact ⟨(List.getElem?_eq_some_iff.mp h1).1, by rw [← h2]⟩
theorem ax_e_ne {G : ax_G} {σ : ax_S} {c c' i : Nat} {v : Int32} (h : ax_H) (hn : c' ≠ c) : ax_e G (ax_ui σ c i v) c' h = ax_e G σ c' h := by
  have h1 : ∀ j, (ax_ui σ c i v).1 c' j = σ.1 c' j := fun j => by simp [ax_ui, hn]
  rcases h with o | a
  · simp only [ax_e]
    congr 3
    funext j f
    rcases f with _ | _ | k
    · simp only [ax_fv, h1]
    · rfl
    · rfl
  · simp only [ax_e]
    congr 4
    funext j
    exact h1 j
theorem ax_e_nel {G : ax_G} {σ : ax_S} {c c' i : Nat} {v : Int64} (h : ax_H) (hn : c' ≠ c) : ax_e G (ax_ul σ c i v) c' h = ax_e G σ c' h := by
  have h1 : ∀ j, (ax_ul σ c i v).2 c' j = σ.2 c' j := fun j => by simp [ax_ul, hn]
  rcases h with o | a
  · simp only [ax_e]
    congr 3
    funext j f
    rcases f with _ | _ | k
    · rfl
    · simp only [ax_fv, h1]
    · rfl
  · rfl
theorem ax_w_set {sh : List ax_H} {G : ax_G} {σ σ' : ax_S} {c : Nat} {h : ax_H} (hc : sh[c]? = some h) (hn : ∀ c' h', c' ≠ c → ax_e G σ' c' h' = ax_e G σ c' h') : ax_w sh G σ' = (ax_w sh G σ).set c (G.1 c, ax_e G σ' c h) := by
  have hlt : c < sh.length := (List.getElem?_eq_some_iff.mp hc).1
  apply List.ext_getElem?
  intro k
  by_cases hk : k = c
  · subst hk
    rw [ax_w_at hc, List.getElem?_set_self (by simpa [ax_w] using hlt)]
  · rw [List.getElem?_set_ne (fun e => hk e.symm)]
    simp only [ax_w, List.getElem?_mapIdx]
    cases hs : sh[k]? with
    | none => rfl
    | some x => simp only [Option.map_some]; rw [hn k x hk]
theorem ax_w_ui {sh : List ax_H} {G : ax_G} {σ : ax_S} {c j ci : Nat} {fs : List ax_F} {v : Int32} (hc : sh[c]? = some (Sum.inl (ci, fs))) (hf : fs[j]? = some none) :
    ax_w sh G (ax_ui σ c j v) = (ax_w sh G σ).set c (G.1 c, Sum.inr (ci, (fs.mapIdx (fun j f => ax_fv G.1 σ c j f)).set j (Value.int v))) := by
  rw [ax_w_set hc (fun c' h' hn => ax_e_ne h' hn)]
  congr 2
  simp only [ax_e]
  congr 2
  apply List.ext_getElem?
  intro k
  by_cases hk : k = j
  · subst hk
    rw [List.getElem?_set_self (by simpa using (List.getElem?_eq_some_iff.mp hf).1)]
    simp [List.getElem?_mapIdx, hf, ax_fv, ax_ui]
  · rw [List.getElem?_set_ne (fun e => hk e.symm)]
    simp only [List.getElem?_mapIdx]
    cases hs : fs[k]? with
    | none => rfl
    | some f =>
      rcases f with _ | _ | r
      · simp [ax_fv, ax_ui, hk]
      · rfl
      · rfl
theorem ax_w_ul {sh : List ax_H} {G : ax_G} {σ : ax_S} {c j ci : Nat} {fs : List ax_F} {v : Int64} (hc : sh[c]? = some (Sum.inl (ci, fs))) (hf : fs[j]? = some (some none)) :
    ax_w sh G (ax_ul σ c j v) = (ax_w sh G σ).set c (G.1 c, Sum.inr (ci, (fs.mapIdx (fun j f => ax_fv G.1 σ c j f)).set j (Value.long v))) := by
  rw [ax_w_set hc (fun c' h' hn => ax_e_nel h' hn)]
  congr 2
  simp only [ax_e]
  congr 2
  apply List.ext_getElem?
  intro k
  by_cases hk : k = j
  · subst hk
    rw [List.getElem?_set_self (by simpa using (List.getElem?_eq_some_iff.mp hf).1)]
    simp [List.getElem?_mapIdx, hf, ax_fv, ax_ul]
  · rw [List.getElem?_set_ne (fun e => hk e.symm)]
    simp only [List.getElem?_mapIdx]
    cases hs : fs[k]? with
    | none => rfl
    | some f =>
      rcases f with _ | _ | r
      · rfl
      · simp [ax_fv, ax_ul, hk]
      · rfl
theorem ax_w_ua {sh : List ax_H} {G : ax_G} {σ : ax_S} {c i n : Nat} {b : Bool} {v : Int32} (hc : sh[c]? = some (Sum.inr (b, n))) :
    ax_w sh G (ax_ui σ c i v) = (ax_w sh G σ).set c (G.1 c, Sum.inl (if b then G.2.2 else G.2.1, n, Sum.inl (upd (σ.1 c) i v))) := by
  rw [ax_w_set hc (fun c' h' hn => ax_e_ne h' hn)]
  congr 2
  simp only [ax_e]
  congr 4
  funext j
  simp [ax_ui, upd]
/-- the locals by their slots -/
def ax_p (ad : Nat → Nat) : Nat → List (Option ax_V) → List (Nat × Value)
  | _, [] => []
  | i, none :: t => ax_p ad (i + 1) t
  | i, some v :: t => (i, ax_v ad v) :: ax_p ad (i + 1) t
theorem ax_p_mem {ad : Nat → Nat} {q : Nat × Value} : ∀ (lv : List (Option ax_V)) (k : Nat), q ∈ ax_p ad k lv ↔ ∃ (i : Nat) (v : ax_V), lv[i]? = some (some v) ∧ q = (k + i, ax_v ad v) := by
  intro lv
  induction lv with
  | nil => intro k; simp [ax_p]
  | cons a t ih =>
    intro k
    have step : (∃ (i : Nat) (v : ax_V), (a :: t)[i]? = some (some v) ∧ q = (k + i, ax_v ad v)) ↔ (∃ v, a = some v ∧ q = (k, ax_v ad v)) ∨ ∃ (i : Nat) (v : ax_V), t[i]? = some (some v) ∧ q = (k + 1 + i, ax_v ad v) := by
      constructor
      · rintro ⟨i, v, h1, h2⟩
        cases i with
        | zero => exact Or.inl ⟨v, by simpa using h1, h2⟩
        | succ i => exact Or.inr ⟨i, v, by simpa using h1, by rw [h2]; congr 1; omega⟩
      · rintro (⟨v, h1, h2⟩ | ⟨i, v, h1, h2⟩)
        · exact ⟨0, v, by simp [h1], h2⟩
        · exact ⟨i + 1, v, by simpa using h1, by rw [h2]; congr 1; omega⟩
    rw [step]
    cases a with
    | none => simp only [ax_p]; rw [ih]; simp
    | some v => simp only [ax_p, List.mem_cons]; rw [ih]; simp
def ax_nl (lv : List (Option ax_V)) (i : Nat) : Bool := match i with
  | 0 => true
  | j + 1 => match lv[j]? with
    | some (some (Sum.inr (Sum.inl _))) => false
    | _ => true
theorem ax_at {ad : Nat → Nat} {ls : Array Slot} {n i : Nat} {lv : List (Option ax_V)} {v : ax_V} (h : lv_has ls n (ax_p ad 0 lv)) (hi : lv[i]? = some (some v)) : ls[i]? = some (.val (ax_v ad v)) :=
  h.2.2 (i, ax_v ad v) ((ax_p_mem lv 0).mpr ⟨i, v, hi, by simp⟩)
theorem ax_cat {ad : Nat → Nat} {v : ax_V} (h : (ax_v ad v).category = 2) : ∃ x, v = Sum.inr (Sum.inl x) := by
  rcases v with x | x | x
  · simp [ax_v, Value.category] at h
  · exact ⟨x, rfl⟩
  · simp [ax_v, Value.category] at h
theorem ax_keep {ad : Nat → Nat} {lv : List (Option ax_V)} {i j : Nat} {w : ax_V} (hj : lv[j]? = some (some w)) (hnl : ax_nl lv i = true) (h : j + 1 = i) : ¬ (ax_v ad w).category = 2 := by
  intro hc
  obtain ⟨x, rfl⟩ := ax_cat hc
  subst h
  simp [ax_nl, hj] at hnl
theorem ax_store1 {ad : Nat → Nat} {ls' : Array Slot} {n i : Nat} {lv : List (Option ax_V)} {v : ax_V} (hnl : ax_nl lv i = true)
    (h' : lv_has ls' n ((i, ax_v ad v) :: (ax_p ad 0 lv).filter (fun q => !(q.1 == i) && !(q.1 + 1 == i && q.2.category == 2)))) : lv_has ls' n (ax_p ad 0 (lv.set i (some v))) := by
  refine ⟨h'.1, h'.2.1, fun q hq => ?_⟩
  obtain ⟨j, w, hj, rfl⟩ := (ax_p_mem _ 0).mp hq
  refine h'.2.2 _ ?_
  simp only [Nat.zero_add]
  by_cases hji : i = j
  · subst hji
    rw [List.getElem?_set] at hj
    simp only [if_true] at hj
    split at hj
    · cases hj; exact List.mem_cons_self
    · cases hj
  · rw [List.getElem?_set_ne hji] at hj
    refine List.mem_cons_of_mem _ (List.mem_filter.mpr ⟨(ax_p_mem lv 0).mpr ⟨j, w, hj, by simp⟩, ?_⟩)
    have h1 : ¬ (j = i) := fun e => hji e.symm
    by_cases h2 : j + 1 = i
    · have := ax_keep (ad := ad) hj hnl h2
      simp [h1, this]
    · simp [h1, h2]
theorem ax_store2 {ad : Nat → Nat} {ls' : Array Slot} {n i : Nat} {lv : List (Option ax_V)} {v : ax_V} (hnl : ax_nl lv i = true)
    (h' : lv_has ls' n ((i, ax_v ad v) :: (ax_p ad 0 lv).filter (fun q => !(q.1 == i) && (!(q.1 == i + 1) && !(q.1 + 1 == i && q.2.category == 2))))) : lv_has ls' n (ax_p ad 0 ((lv.set i (some v)).set (i + 1) none)) := by
  refine ⟨h'.1, h'.2.1, fun q hq => ?_⟩
  obtain ⟨j, w, hj, rfl⟩ := (ax_p_mem _ 0).mp hq
  refine h'.2.2 _ ?_
  simp only [Nat.zero_add]
  by_cases hj1 : i + 1 = j
  · subst hj1
    rw [List.getElem?_set] at hj
    simp only [if_true] at hj
    split at hj <;> cases hj
  rw [List.getElem?_set_ne hj1] at hj
  by_cases hji : i = j
  · subst hji
    rw [List.getElem?_set] at hj
    simp only [if_true] at hj
    split at hj
    · cases hj; exact List.mem_cons_self
    · cases hj
  · rw [List.getElem?_set_ne hji] at hj
    refine List.mem_cons_of_mem _ (List.mem_filter.mpr ⟨(ax_p_mem lv 0).mpr ⟨j, w, hj, by simp⟩, ?_⟩)
    have h1 : ¬ (j = i) := fun e => hji e.symm
    have h3 : ¬ (j = i + 1) := fun e => hj1 e.symm
    by_cases h2 : j + 1 = i
    · have := ax_keep (ad := ad) hj hnl h2
      simp [h1, h3, this]
    · simp [h1, h2, h3]
theorem ax_weakl {ad : Nat → Nat} {ls : Array Slot} {n : Nat} {lv lv' : List (Option ax_V)} (h : lv_has ls n (ax_p ad 0 lv)) (hw : ∀ (i : Nat) (v : ax_V), lv'[i]? = some (some v) → lv[i]? = some (some v)) : lv_has ls n (ax_p ad 0 lv') := by
  refine ⟨h.1, h.2.1, fun q hq => ?_⟩
  obtain ⟨j, w, hj, rfl⟩ := (ax_p_mem _ 0).mp hq
  exact h.2.2 _ ((ax_p_mem lv 0).mpr ⟨j, w, hw j w hj, rfl⟩)

/-- the words of all methods -/
def ax_U : List Cond := lw_tbl.filter goodWord
theorem ax_Ug : ax_U.all goodWord = true := by
  rw [List.all_eq_true]
  intro w hw
  exact (List.mem_filter.mp hw).2
theorem ax_Uin : ∀ w ∈ ax_U, w ∈ lw_tbl := fun w hw => (List.mem_filter.mp hw).1
theorem ax_in {w : Cond} (i : Nat) (h : tables_1[i]? = some w) (hg : goodWord w = true) : w ∈ ax_U := List.mem_filter.mpr ⟨List.mem_append_right _ (List.mem_of_getElem? h), hg⟩
theorem ax_inp {y : MethodName} {n : Nat} (i : Nat) (h : lw_privs[i]? = some (y, n)) (hg : goodWord (Cond.selects y.cls y y) = true) : Cond.selects y.cls y y ∈ ax_U := List.mem_filter.mpr ⟨List.mem_append_left _ (List.mem_map.mpr ⟨(y, n), List.mem_of_getElem? h, rfl⟩), hg⟩
/-- the static arrays: class, name, descriptor, type of element, what they hold -/
def ax_st : List (String × String × String × FieldType × List Int32) := [(RX11, "SO_BY_STROKE", "[I", .int, [8, 7, 6]), (RX11, "SO_BY_SPARK", "[I", .int, [3, 1, 5]), (RX1, "LETTERS", "[C", .char, [99, 100, 120, 116, 108, 107, 97, 98, 115]), (RX1, "LOWEST", "[I", .int, [0, 0, 0, 1, 1, 0, 0, 0, 0]), (RX1, "HIGHEST", "[I", .int, [99, 9, 20, 9, 99, 3, 7, 7, 9]), (RX1, "WITHOUT", "[I", .int, [20, 0, 0, 3, 20, 0, 0, 1, 0]), (RX6, "LETTERS", "[C", .char, [112, 116, 108, 107, 110, 100])]
/-- the links to a nest mate's private method -/
def ax_ne : List Cond := [.methodLinkNest RX1 75 yX11_bitOf "CopperTies", .methodLinkNest RX0 74 yX11_bitOf "CopperTies", .methodLinkNest RX8 60 yX11_bitOf "CopperTies", .methodLinkNest RX10 23 yX11_bitOf "CopperTies", .methodLinkNest RX4 39 yX11_bitOf "CopperTies"]
def ax_Z (G : ax_G) (A : Nat → Prop) (U : State) (H : Heap) : Prop := ∀ (k : Nat) (r : String × String × String × FieldType × List Int32), ax_st[k]? = some r →
  va_Z r.1 r.2.1 r.2.2.1 (.ref (G.1 (1000 + k))) A U H ∧ va_T r.2.2.2.1 (G.1 (1000 + k)) r.2.2.2.2.length (fun j => .int (r.2.2.2.2.getD j 0)) A U H
def ax_K (dC : Nat → ClassId) (dI : Nat → Nat → Nat) (G : ax_G) (A : Nat → Prop) (U : State) (H : Heap) : Prop :=
  va_K (dC, dI) vwCl [(G.2.1, .int), (G.2.2, .boolean)] U ∧ ax_Z G A U H ∧ ∀ w ∈ ax_ne, va_Nw w U
abbrev ax_M : Type := MethodName × ByteArray × Nat × Option FieldType
def ax_A (sh : List ax_H) (G : ax_G) (sz : Nat) : Nat → Prop := fun q => (∃ k, k < sh.length ∧ q = G.1 k) ∨ sz ≤ q
def ax_I (sh : List ax_H) (G : ax_G) : Prop := ∀ i j, i < sh.length → j < sh.length → G.1 i = G.1 j → i = j
def ax_C (sh : List ax_H) (d : Nat) (M : ax_M) (dC : Nat → ClassId) (dI : Nat → Nat → Nat) (G : ax_G) (A : Nat → Prop) (p : Program) (R : Room) (s : State) (m : MethodId) (args : Array Value) (meth : Method) (c : Code) : Prop :=
  p.tables.exec = Jvm.exec ∧ c.code = M.2.1 ∧ c.maxLocals = M.2.2.1 ∧ meth.sig.returnType = M.2.2.2 ∧ s.vm.findClass M.1.cls = some m.cls ∧ meth.locks = false ∧ (∀ w ∈ ax_U, w.before args s = true) ∧ ax_K dC dI G A s s.heap ∧ (∀ q, s.heap.size ≤ q → A q) ∧ ax_I sh G ∧ (∀ i, i < sh.length → A (G.1 i)) ∧ d ≤ R.frames ∧ 64 * d ≤ R.locals
def ax_Q (sh : List ax_H) (dC : Nat → ClassId) (dI : Nat → Nat → Nat) (G : ax_G) (A : Nat → Prop) (Q : Option ax_V → ax_S → Prop) : Array Value → State → Outcome → State → Prop := fun _ st oc t =>
  (∃ (r : Option ax_V) (u : ax_S), oc = .returned (r.map (ax_v G.1)) ∧ Q r u ∧ va_P (dC, dI) vwCl (ax_w sh G u) t.heap) ∧ va_F A st t
/-- from here the method returns, with Q of its answer and of the world -/
def ax_W (sh : List ax_H) (d : Nat) (M : ax_M) (Q : Option ax_V → ax_S → Prop) (pc : Nat) (lv : List (Option ax_V)) (st : List ax_V) (σ : ax_S) : Prop :=
  ∀ (l : Launch) (dC : Nat → ClassId) (dI : Nat → Nat → Nat) (G : ax_G) (A : Nat → Prop) (p : Program) (e : Env) (R : Room) (s : State) (m : MethodId) (args : Array Value) (below : List Frame) (meth : Method) (c : Code),
    ax_C sh d M dC dI G A p R s m args meth c → ∀ (H : Heap) (locs : List Loc) (ls : Array Slot), va_P (dC, dI) vwCl (ax_w sh G σ) H → va_S A s.heap H locs → lv_has ls M.2.2.1 (ax_p G.1 0 lv) →
    W p l e R s m args below meth c H locs 0 0 (MQ below (ax_Q sh dC dI G A Q) args s 0 0 A) (F0 m pc ls (st.map (ax_v G.1)))
def ax_rm (d : Nat) : Room := { frames := d, cells := 0, slots := 0, locals := 64 * d }
def ax_ws (M : ax_M) : List Cond := .code M.1 M.2.1 M.2.2.1 M.2.2.2 :: ax_U
def ax_Pc (sh : List ax_H) (dC : Nat → ClassId) (dI : Nat → Nat → Nat) (G : ax_G) (sz : Nat) (As : List ax_V) (σ : ax_S) : Array Value → State → Prop :=
  va_Pc (As.map (ax_v G.1)) (fun U => U.heap.size = sz ∧ va_P (dC, dI) vwCl (ax_w sh G σ) U.heap ∧ ax_K dC dI G (ax_A sh G sz) U U.heap ∧ ax_I sh G)
/-- a method's contract at one world and one list of arguments; its room: d frames -/
def ax_Ct (sh : List ax_H) (d : Nat) (M : ax_M) (As : List ax_V) (Q : Option ax_V → ax_S → Prop) (σ : ax_S) : Prop :=
  ∀ (d' : Nat), d ≤ d' → ∀ (l : Launch) (dC : Nat → ClassId) (dI : Nat → Nat → Nat) (G : ax_G) (sz : Nat),
    Met l M.1 (ax_ws M) (ax_rm d') (ax_Pc sh dC dI G sz As σ) (ax_Q sh dC dI G (ax_A sh G sz) Q) 0 0 (ax_A sh G sz)
theorem ax_Ct.le {sh : List ax_H} {d d' : Nat} {M : ax_M} {As : List ax_V} {Q : Option ax_V → ax_S → Prop} {σ : ax_S} (h : ax_Ct sh d M As Q σ) (hd : d ≤ d') : ax_Ct sh d' M As Q σ :=
  fun d'' h'' => h d'' (Nat.le_trans hd h'')
theorem ax_W.le {sh : List ax_H} {d d' : Nat} {M : ax_M} {Q : Option ax_V → ax_S → Prop} {pc : Nat} {lv : List (Option ax_V)} {st : List ax_V} {σ : ax_S} (h : ax_W sh d M Q pc lv st σ) (hd : d ≤ d') : ax_W sh d' M Q pc lv st σ := by
  intro l dC dI G A p e R s m args below meth c C
  obtain ⟨c1, c2, c3, c4, c5, c6, c7, c8, c9, c10, c11, c12, c13⟩ := C
  exact h l dC dI G A p e R s m args below meth c ⟨c1, c2, c3, c4, c5, c6, c7, c8, c9, c10, c11, by omega, by omega⟩
theorem ax_Q.mono {sh : List ax_H} {dC : Nat → ClassId} {dI : Nat → Nat → Nat} {G : ax_G} {A : Nat → Prop} {Q Q' : Option ax_V → ax_S → Prop} (hQ : ∀ r u, Q r u → Q' r u) {a : Array Value} {st : State} {oc : Outcome} {t : State} (h : ax_Q sh dC dI G A Q a st oc t) : ax_Q sh dC dI G A Q' a st oc t := by
  obtain ⟨⟨r, u, h1, h2, h3⟩, h4⟩ := h
  exact ⟨⟨r, u, h1, hQ r u h2, h3⟩, h4⟩
theorem ax_W.mono {sh : List ax_H} {d : Nat} {M : ax_M} {Q Q' : Option ax_V → ax_S → Prop} {pc : Nat} {lv : List (Option ax_V)} {st : List ax_V} {σ : ax_S} (h : ax_W sh d M Q pc lv st σ) (hQ : ∀ r u, Q r u → Q' r u) : ax_W sh d M Q' pc lv st σ := by
  intro l dC dI G A p e R s m args below meth c C H locs ls hP hS hl T hT X
  obtain ⟨t, h1, o, h2, h3, h4, h5⟩ := h l dC dI G A p e R s m args below meth c C H locs ls hP hS hl T hT X
  exact ⟨t, h1, o, h2, h3, ax_Q.mono hQ h4, h5⟩
theorem ax_K.to {sh : List ax_H} {dC : Nat → ClassId} {dI : Nat → Nat → Nat} {G : ax_G} {A B : Nat → Prop} {s U : State} {H0 H : Heap} (h : ax_K dC dI G A s H0) (hW : s.WarmedH U.vm) (hk : ∀ a : Nat, a < H0.size → ¬ A a → H[a]? = H0[a]?) (hB : ∀ q, B q → A q) : ax_K dC dI G B U H :=
  ⟨h.1.moved hW.alike, fun k r hr => ⟨(((h.2.1 k r hr).1.moved hW.alike).kept hk).narrow hB, (((h.2.1 k r hr).2.moved hW.alike).kept hk).narrow hB⟩, fun w hw => by
    have h3 := h.2.2 w hw
    simp only [ax_ne, List.mem_cons, List.not_mem_nil, or_false] at hw
    rcases hw with rfl | rfl | rfl | rfl | rfl <;> exact va_Nw.warmM hW h3⟩
theorem ax_K.same {dC : Nat → ClassId} {dI : Nat → Nat → Nat} {G : ax_G} {A : Nat → Prop} {s U : State} {H : Heap} (h : ax_K dC dI G A s H) (hv : s.vm = U.vm) : ax_K dC dI G A U H :=
  ⟨h.1.moved (by rw [hv]; exact Vm.Alike.refl _), fun k r hr => ⟨(h.2.1 k r hr).1.moved (by rw [hv]; exact Vm.Alike.refl _), (h.2.1 k r hr).2.moved (by rw [hv]; exact Vm.Alike.refl _)⟩, fun w hw => by
    have h3 := h.2.2 w hw
    simp only [ax_ne, List.mem_cons, List.not_mem_nil, or_false] at hw
    rcases hw with rfl | rfl | rfl | rfl | rfl <;> exact va_Nw.same rfl hv h3⟩
theorem ax_D {sh : List ax_H} {G : ax_G} {A : Nat → Prop} {σ : ax_S} (hi : ax_I sh G) (hA : ∀ i, i < sh.length → A (G.1 i)) : va_D A (ax_w sh G σ) := by
  refine ⟨fun i j p q hp hq he => ?_, fun k q hq => ?_⟩
  · obtain ⟨h1, h2⟩ := ax_w_of hp
    obtain ⟨h3, h4⟩ := ax_w_of hq
    exact hi i j h1 h3 (by rw [← h2, ← h4]; exact he)
  · obtain ⟨h1, h2⟩ := ax_w_of hq
    rw [h2]; exact hA k h1
theorem ax_blind {sh : List ax_H} {dC : Nat → ClassId} {dI : Nat → Nat → Nat} {G : ax_G} {sz : Nat} {As : List ax_V} {σ : ax_S} : FrameBlind (ax_Pc sh dC dI G sz As σ) := by
  intro a U g mk h
  obtain ⟨h1, h2, h3, h4, h5⟩ := h
  exact ⟨h1, h2, h3, ax_K.same (U := U.calling g mk a) h4 rfl, h5⟩
/-- the contract out of the walk -/
theorem ax_Ct.of {sh : List ax_H} {d : Nat} {M : ax_M} {As : List ax_V} {Q : Option ax_V → ax_S → Prop} {σ : ax_S} {lv : List (Option ax_V)} (hy : plainName M.1.cls = true) (hlen : ∀ ad : Nat → Nat, (lg_sl (As.map (ax_v ad))).length ≤ M.2.2.1) (hlv : ∀ ad : Nat → Nat, lv_args 0 (As.map (ax_v ad)) = ax_p ad 0 lv)
    (h : ax_W sh d M Q 0 lv [] σ) : ax_Ct sh d M As Q σ := by
  intro d' hd l dC dI G sz
  refine Met.ofW (cc := M.2.1) (maxL := M.2.2.1) (ret := M.2.2.2) hy rfl ?_
  intro p e s m args below meth c s₁ B hml hv
  obtain ⟨rfl, hsz, hP, hK, hI⟩ := hv
  subst hsz
  have hts := atoms_spec (ws := ax_ws M) B.pre
  have hown : s.vm.findClass M.1.cls = some m.cls := findClass_of_methodNamed B.named
  have hl := lv_entry (As.map (ax_v G.1)) (n := M.2.2.1) (hlen G.1)
  rw [lg_entry_eq]
  generalize (lg_sl (As.map (ax_v G.1)) ++ List.replicate (M.2.2.1 - (lg_sl (As.map (ax_v G.1))).length) Slot.unset).toArray = ls at hl ⊢
  rw [hlv G.1] at hl
  exact h l dC dI G (ax_A sh G s.heap.size) p e _ s m _ below meth c ⟨B.exec, B.bytes, hml, B.returns, hown, B.notSynchronized, fun w hw => hts w (List.mem_cons_of_mem _ hw), hK, fun q h => Or.inr h, hI, fun i hi => Or.inl ⟨i, hi, rfl⟩, hd, Nat.mul_le_mul_left 64 hd⟩ s.heap [] ls hP va_S.rf hl

section AX
variable {sh : List ax_H} {d : Nat} {M : ax_M} {Q : Option ax_V → ax_S → Prop} {pc q : Nat} {lv : List (Option ax_V)} {st : List ax_V} {σ : ax_S}
theorem ax_iconst {n : Int} {v : Int32} (hd : decode M.2.1 pc = .ok (.iconst n, 1)) (hq : pc + 1 = q) (hv : Int32.ofInt n = v) (k : ax_W sh d M Q q lv (ax_i v :: st) σ) : ax_W sh d M Q pc lv (st) σ := by
  subst hq
  intro l dC dI G A p e R s m args below meth c C H locs ls hP hS hl
  exact lv_iconst C.1 C.2.1 hd hv (k l dC dI G A p e R s m args below meth c C H locs ls hP hS hl)
theorem ax_bipush {n : Int} {v : Int32} (hd : decode M.2.1 pc = .ok (.bipush n, 2)) (hq : pc + 2 = q) (hv : (Int8.ofInt n).toInt32 = v) (k : ax_W sh d M Q q lv (ax_i v :: st) σ) : ax_W sh d M Q pc lv (st) σ := by
  subst hq
  intro l dC dI G A p e R s m args below meth c C H locs ls hP hS hl
  exact lv_bipush C.1 C.2.1 hd hv (k l dC dI G A p e R s m args below meth c C H locs ls hP hS hl)
theorem ax_sipush {n : Int} {v : Int32} (hd : decode M.2.1 pc = .ok (.sipush n, 3)) (hq : pc + 3 = q) (hv : (Int16.ofInt n).toInt32 = v) (k : ax_W sh d M Q q lv (ax_i v :: st) σ) : ax_W sh d M Q pc lv (st) σ := by
  subst hq
  intro l dC dI G A p e R s m args below meth c C H locs ls hP hS hl
  exact lv_sipush C.1 C.2.1 hd hv (k l dC dI G A p e R s m args below meth c C H locs ls hP hS hl)
theorem ax_lconst {n : Fin 2} {v : Int64} (hd : decode M.2.1 pc = .ok (.lconst n, 1)) (hq : pc + 1 = q) (hv : Int64.ofNat (n : Nat) = v) (k : ax_W sh d M Q q lv (ax_l v :: st) σ) : ax_W sh d M Q pc lv (st) σ := by
  subst hq
  intro l dC dI G A p e R s m args below meth c C H locs ls hP hS hl
  exact lv_lconst C.1 C.2.1 hd hv (k l dC dI G A p e R s m args below meth c C H locs ls hP hS hl)
theorem ax_ldc {n : Nat} {v : Int32} (hd : decode M.2.1 pc = .ok (.ldc n, 2)) (hq : pc + 2 = q) (hu : Cond.constant M.1.cls n v ∈ ax_U) (k : ax_W sh d M Q q lv (ax_i v :: st) σ) : ax_W sh d M Q pc lv (st) σ := by
  subst hq
  intro l dC dI G A p e R s m args below meth c C H locs ls hP hS hl
  exact lv_ldc C.1 C.2.1 C.2.2.2.2.1 (C.2.2.2.2.2.2.1 _ hu) hd (k l dC dI G A p e R s m args below meth c C H locs ls hP hS hl)
theorem ax_ldcw {n : Nat} {v : Int32} (hd : decode M.2.1 pc = .ok (.ldc_w n, 3)) (hq : pc + 3 = q) (hu : Cond.constant M.1.cls n v ∈ ax_U) (k : ax_W sh d M Q q lv (ax_i v :: st) σ) : ax_W sh d M Q pc lv (st) σ := by
  subst hq
  intro l dC dI G A p e R s m args below meth c C H locs ls hP hS hl
  exact lv_ldcw C.1 C.2.1 C.2.2.2.2.1 (C.2.2.2.2.2.2.1 _ hu) hd (k l dC dI G A p e R s m args below meth c C H locs ls hP hS hl)
theorem ax_ldc2 {n : Nat} {v : Int64} (hd : decode M.2.1 pc = .ok (.ldc2_w n, 3)) (hq : pc + 3 = q) (hu : Cond.constantLong M.1.cls n v ∈ ax_U) (k : ax_W sh d M Q q lv (ax_l v :: st) σ) : ax_W sh d M Q pc lv (st) σ := by
  subst hq
  intro l dC dI G A p e R s m args below meth c C H locs ls hP hS hl
  exact lv_ldc2 C.1 C.2.1 C.2.2.2.2.1 (C.2.2.2.2.2.2.1 _ hu) hd (k l dC dI G A p e R s m args below meth c C H locs ls hP hS hl)
theorem ax_iload_n {n : Fin 4} {i : Nat} {x : Int32} (hd : decode M.2.1 pc = .ok (.iload_n n, 1)) (hq : pc + 1 = q) (hi : (n : Nat) = i) (hx : lv[i]? = some (some (ax_i x))) (k : ax_W sh d M Q q lv (ax_i x :: st) σ) : ax_W sh d M Q pc lv (st) σ := by
  subst hq
  intro l dC dI G A p e R s m args below meth c C H locs ls hP hS hl
  exact lv_iload_n C.1 C.2.1 hd hi (ax_at hl hx) (k l dC dI G A p e R s m args below meth c C H locs ls hP hS hl)
theorem ax_iload {i : Nat} {x : Int32} (hd : decode M.2.1 pc = .ok (.iload i, 2)) (hq : pc + 2 = q) (hx : lv[i]? = some (some (ax_i x))) (k : ax_W sh d M Q q lv (ax_i x :: st) σ) : ax_W sh d M Q pc lv (st) σ := by
  subst hq
  intro l dC dI G A p e R s m args below meth c C H locs ls hP hS hl
  exact lv_iload C.1 C.2.1 hd (ax_at hl hx) (k l dC dI G A p e R s m args below meth c C H locs ls hP hS hl)
theorem ax_lload_n {n : Fin 4} {i : Nat} {x : Int64} (hd : decode M.2.1 pc = .ok (.lload_n n, 1)) (hq : pc + 1 = q) (hi : (n : Nat) = i) (hx : lv[i]? = some (some (ax_l x))) (k : ax_W sh d M Q q lv (ax_l x :: st) σ) : ax_W sh d M Q pc lv (st) σ := by
  subst hq
  intro l dC dI G A p e R s m args below meth c C H locs ls hP hS hl
  exact lv_lload_n C.1 C.2.1 hd hi (ax_at hl hx) (k l dC dI G A p e R s m args below meth c C H locs ls hP hS hl)
theorem ax_lload {i : Nat} {x : Int64} (hd : decode M.2.1 pc = .ok (.lload i, 2)) (hq : pc + 2 = q) (hx : lv[i]? = some (some (ax_l x))) (k : ax_W sh d M Q q lv (ax_l x :: st) σ) : ax_W sh d M Q pc lv (st) σ := by
  subst hq
  intro l dC dI G A p e R s m args below meth c C H locs ls hP hS hl
  exact lv_lload C.1 C.2.1 hd (ax_at hl hx) (k l dC dI G A p e R s m args below meth c C H locs ls hP hS hl)
theorem ax_aload_n {n : Fin 4} {i : Nat} {x : Nat} (hd : decode M.2.1 pc = .ok (.aload_n n, 1)) (hq : pc + 1 = q) (hi : (n : Nat) = i) (hx : lv[i]? = some (some (ax_r x))) (k : ax_W sh d M Q q lv (ax_r x :: st) σ) : ax_W sh d M Q pc lv (st) σ := by
  subst hq
  intro l dC dI G A p e R s m args below meth c C H locs ls hP hS hl
  exact lv_aload_n C.1 C.2.1 hd hi (ax_at hl hx) (k l dC dI G A p e R s m args below meth c C H locs ls hP hS hl)
theorem ax_aload {i : Nat} {x : Nat} (hd : decode M.2.1 pc = .ok (.aload i, 2)) (hq : pc + 2 = q) (hx : lv[i]? = some (some (ax_r x))) (k : ax_W sh d M Q q lv (ax_r x :: st) σ) : ax_W sh d M Q pc lv (st) σ := by
  subst hq
  intro l dC dI G A p e R s m args below meth c C H locs ls hP hS hl
  exact lv_aload C.1 C.2.1 hd (ax_at hl hx) (k l dC dI G A p e R s m args below meth c C H locs ls hP hS hl)
theorem ax_istore_n {n : Fin 4} {i : Nat} {x : Int32} {lv2 : List (Option ax_V)} (hd : decode M.2.1 pc = .ok (.istore_n n, 1)) (hq : pc + 1 = q) (hi : (n : Nat) = i) (hn : i < M.2.2.1) (hnl : ax_nl lv i = true) (hlv : lv.set i (some (ax_i x)) = lv2) (k : ax_W sh d M Q q lv2 (st) σ) : ax_W sh d M Q pc lv (ax_i x :: st) σ := by
  subst hq
  intro l dC dI G A p e R s m args below meth c C H locs ls hP hS hl
  exact lv_istore_n C.1 C.2.1 hd hi hl hn rfl (fun ls2 hl2 => k l dC dI G A p e R s m args below meth c C H locs ls2 hP hS (hlv ▸ ax_store1 (v := ax_i x) hnl hl2))
theorem ax_istore {i : Nat} {x : Int32} {lv2 : List (Option ax_V)} (hd : decode M.2.1 pc = .ok (.istore i, 2)) (hq : pc + 2 = q) (hn : i < M.2.2.1) (hnl : ax_nl lv i = true) (hlv : lv.set i (some (ax_i x)) = lv2) (k : ax_W sh d M Q q lv2 (st) σ) : ax_W sh d M Q pc lv (ax_i x :: st) σ := by
  subst hq
  intro l dC dI G A p e R s m args below meth c C H locs ls hP hS hl
  exact lv_istore C.1 C.2.1 hd hl hn rfl (fun ls2 hl2 => k l dC dI G A p e R s m args below meth c C H locs ls2 hP hS (hlv ▸ ax_store1 (v := ax_i x) hnl hl2))
theorem ax_astore_n {n : Fin 4} {i : Nat} {x : Nat} {lv2 : List (Option ax_V)} (hd : decode M.2.1 pc = .ok (.astore_n n, 1)) (hq : pc + 1 = q) (hi : (n : Nat) = i) (hn : i < M.2.2.1) (hnl : ax_nl lv i = true) (hlv : lv.set i (some (ax_r x)) = lv2) (k : ax_W sh d M Q q lv2 (st) σ) : ax_W sh d M Q pc lv (ax_r x :: st) σ := by
  subst hq
  intro l dC dI G A p e R s m args below meth c C H locs ls hP hS hl
  exact lv_astore_n C.1 C.2.1 hd hi hl hn rfl (fun ls2 hl2 => k l dC dI G A p e R s m args below meth c C H locs ls2 hP hS (hlv ▸ ax_store1 (v := ax_r x) hnl hl2))
theorem ax_astore {i : Nat} {x : Nat} {lv2 : List (Option ax_V)} (hd : decode M.2.1 pc = .ok (.astore i, 2)) (hq : pc + 2 = q) (hn : i < M.2.2.1) (hnl : ax_nl lv i = true) (hlv : lv.set i (some (ax_r x)) = lv2) (k : ax_W sh d M Q q lv2 (st) σ) : ax_W sh d M Q pc lv (ax_r x :: st) σ := by
  subst hq
  intro l dC dI G A p e R s m args below meth c C H locs ls hP hS hl
  exact lv_astore C.1 C.2.1 hd hl hn rfl (fun ls2 hl2 => k l dC dI G A p e R s m args below meth c C H locs ls2 hP hS (hlv ▸ ax_store1 (v := ax_r x) hnl hl2))
theorem ax_lstore_n {n : Fin 4} {i : Nat} {x : Int64} {lv2 : List (Option ax_V)} (hd : decode M.2.1 pc = .ok (.lstore_n n, 1)) (hq : pc + 1 = q) (hi : (n : Nat) = i) (hn : i + 1 < M.2.2.1) (hnl : ax_nl lv i = true) (hlv : (lv.set i (some (ax_l x))).set (i + 1) none = lv2) (k : ax_W sh d M Q q lv2 (st) σ) : ax_W sh d M Q pc lv (ax_l x :: st) σ := by
  subst hq
  intro l dC dI G A p e R s m args below meth c C H locs ls hP hS hl
  exact lv_lstore_n C.1 C.2.1 hd hi hl hn rfl (fun ls2 hl2 => k l dC dI G A p e R s m args below meth c C H locs ls2 hP hS (hlv ▸ ax_store2 (v := ax_l x) hnl hl2))
theorem ax_lstore {i : Nat} {x : Int64} {lv2 : List (Option ax_V)} (hd : decode M.2.1 pc = .ok (.lstore i, 2)) (hq : pc + 2 = q) (hn : i + 1 < M.2.2.1) (hnl : ax_nl lv i = true) (hlv : (lv.set i (some (ax_l x))).set (i + 1) none = lv2) (k : ax_W sh d M Q q lv2 (st) σ) : ax_W sh d M Q pc lv (ax_l x :: st) σ := by
  subst hq
  intro l dC dI G A p e R s m args below meth c C H locs ls hP hS hl
  exact lv_lstore C.1 C.2.1 hd hl hn rfl (fun ls2 hl2 => k l dC dI G A p e R s m args below meth c C H locs ls2 hP hS (hlv ▸ ax_store2 (v := ax_l x) hnl hl2))
theorem ax_iinc {i : Nat} {n : Int} {x v : Int32} {lv2 : List (Option ax_V)} (hd : decode M.2.1 pc = .ok (.iinc i n, 3)) (hq : pc + 3 = q) (hx : lv[i]? = some (some (ax_i x))) (hv : x + Int32.ofInt n = v) (hn : i < M.2.2.1) (hnl : ax_nl lv i = true) (hlv : lv.set i (some (ax_i v)) = lv2) (k : ax_W sh d M Q q lv2 st σ) : ax_W sh d M Q pc lv st σ := by
  subst hq
  intro l dC dI G A p e R s m args below meth c C H locs ls hP hS hl
  obtain ⟨j, hj⟩ := List.getElem?_of_mem ((ax_p_mem (ad := G.1) (q := (i, Value.int x)) lv 0).mpr ⟨i, ax_i x, hx, by simp [ax_v]⟩)
  exact lv_iinc C.1 C.2.1 hd hl hj hv hn rfl (fun ls2 hl2 => k l dC dI G A p e R s m args below meth c C H locs ls2 hP hS (hlv ▸ ax_store1 (v := ax_i v) hnl hl2))
theorem ax_forget {lv2 : List (Option ax_V)} (hw : ∀ (i : Nat) (v : ax_V), lv2[i]? = some (some v) → lv[i]? = some (some v)) (k : ax_W sh d M Q pc lv2 st σ) : ax_W sh d M Q pc lv st σ := by
  intro l dC dI G A p e R s m args below meth c C H locs ls hP hS hl
  exact k l dC dI G A p e R s m args below meth c C H locs ls hP hS (ax_weakl hl hw)
theorem ax_iadd {x y : Int32} (hd : decode M.2.1 pc = .ok (.iadd, 1)) (hq : pc + 1 = q)  (k : ax_W sh d M Q q lv (ax_i (x + y) :: st) σ) : ax_W sh d M Q pc lv (ax_i y :: ax_i x :: st) σ := by
  subst hq
  intro l dC dI G A p e R s m args below meth c C H locs ls hP hS hl
  exact lv_iadd C.1 C.2.1 hd (k l dC dI G A p e R s m args below meth c C H locs ls hP hS hl)
theorem ax_isub {x y : Int32} (hd : decode M.2.1 pc = .ok (.isub, 1)) (hq : pc + 1 = q)  (k : ax_W sh d M Q q lv (ax_i (x - y) :: st) σ) : ax_W sh d M Q pc lv (ax_i y :: ax_i x :: st) σ := by
  subst hq
  intro l dC dI G A p e R s m args below meth c C H locs ls hP hS hl
  exact lv_isub C.1 C.2.1 hd (k l dC dI G A p e R s m args below meth c C H locs ls hP hS hl)
theorem ax_imul {x y : Int32} (hd : decode M.2.1 pc = .ok (.imul, 1)) (hq : pc + 1 = q)  (k : ax_W sh d M Q q lv (ax_i (x * y) :: st) σ) : ax_W sh d M Q pc lv (ax_i y :: ax_i x :: st) σ := by
  subst hq
  intro l dC dI G A p e R s m args below meth c C H locs ls hP hS hl
  exact lv_imul C.1 C.2.1 hd (k l dC dI G A p e R s m args below meth c C H locs ls hP hS hl)
theorem ax_iand {x y : Int32} (hd : decode M.2.1 pc = .ok (.iand, 1)) (hq : pc + 1 = q)  (k : ax_W sh d M Q q lv (ax_i (x &&& y) :: st) σ) : ax_W sh d M Q pc lv (ax_i y :: ax_i x :: st) σ := by
  subst hq
  intro l dC dI G A p e R s m args below meth c C H locs ls hP hS hl
  exact lv_iand C.1 C.2.1 hd (k l dC dI G A p e R s m args below meth c C H locs ls hP hS hl)
theorem ax_ior {x y : Int32} (hd : decode M.2.1 pc = .ok (.ior, 1)) (hq : pc + 1 = q)  (k : ax_W sh d M Q q lv (ax_i (x ||| y) :: st) σ) : ax_W sh d M Q pc lv (ax_i y :: ax_i x :: st) σ := by
  subst hq
  intro l dC dI G A p e R s m args below meth c C H locs ls hP hS hl
  exact lv_ior C.1 C.2.1 hd (k l dC dI G A p e R s m args below meth c C H locs ls hP hS hl)
theorem ax_ixor {x y : Int32} (hd : decode M.2.1 pc = .ok (.ixor, 1)) (hq : pc + 1 = q)  (k : ax_W sh d M Q q lv (ax_i (x ^^^ y) :: st) σ) : ax_W sh d M Q pc lv (ax_i y :: ax_i x :: st) σ := by
  subst hq
  intro l dC dI G A p e R s m args below meth c C H locs ls hP hS hl
  exact lv_ixor C.1 C.2.1 hd (k l dC dI G A p e R s m args below meth c C H locs ls hP hS hl)
theorem ax_ishl {x y : Int32} (hd : decode M.2.1 pc = .ok (.ishl, 1)) (hq : pc + 1 = q)  (k : ax_W sh d M Q q lv (ax_i (x <<< (y &&& 31)) :: st) σ) : ax_W sh d M Q pc lv (ax_i y :: ax_i x :: st) σ := by
  subst hq
  intro l dC dI G A p e R s m args below meth c C H locs ls hP hS hl
  exact lv_ishl C.1 C.2.1 hd (k l dC dI G A p e R s m args below meth c C H locs ls hP hS hl)
theorem ax_ishr {x y : Int32} (hd : decode M.2.1 pc = .ok (.ishr, 1)) (hq : pc + 1 = q)  (k : ax_W sh d M Q q lv (ax_i (x >>> (y &&& 31)) :: st) σ) : ax_W sh d M Q pc lv (ax_i y :: ax_i x :: st) σ := by
  subst hq
  intro l dC dI G A p e R s m args below meth c C H locs ls hP hS hl
  exact lv_ishr C.1 C.2.1 hd (k l dC dI G A p e R s m args below meth c C H locs ls hP hS hl)
theorem ax_idiv {x y : Int32} (hd : decode M.2.1 pc = .ok (.idiv, 1)) (hq : pc + 1 = q) (hne : ¬ y = 0) (k : ax_W sh d M Q q lv (ax_i (x / y) :: st) σ) : ax_W sh d M Q pc lv (ax_i y :: ax_i x :: st) σ := by
  subst hq
  intro l dC dI G A p e R s m args below meth c C H locs ls hP hS hl
  exact lv_idiv C.1 C.2.1 hd hne (k l dC dI G A p e R s m args below meth c C H locs ls hP hS hl)
theorem ax_irem {x y : Int32} (hd : decode M.2.1 pc = .ok (.irem, 1)) (hq : pc + 1 = q) (hne : ¬ y = 0) (k : ax_W sh d M Q q lv (ax_i (x - x / y * y) :: st) σ) : ax_W sh d M Q pc lv (ax_i y :: ax_i x :: st) σ := by
  subst hq
  intro l dC dI G A p e R s m args below meth c C H locs ls hP hS hl
  exact lv_irem C.1 C.2.1 hd hne (k l dC dI G A p e R s m args below meth c C H locs ls hP hS hl)
theorem ax_iushr {x y : Int32} (hd : decode M.2.1 pc = .ok (.iushr, 1)) (hq : pc + 1 = q)  (k : ax_W sh d M Q q lv (ax_i ((x.toUInt32 >>> (y.toUInt32 &&& Int32.toUInt32 31)).toInt32) :: st) σ) : ax_W sh d M Q pc lv (ax_i y :: ax_i x :: st) σ := by
  subst hq
  intro l dC dI G A p e R s m args below meth c C H locs ls hP hS hl
  exact lv_iushr C.1 C.2.1 hd rfl (k l dC dI G A p e R s m args below meth c C H locs ls hP hS hl)
theorem ax_ladd {x y : Int64} (hd : decode M.2.1 pc = .ok (.ladd, 1)) (hq : pc + 1 = q)  (k : ax_W sh d M Q q lv (ax_l (x + y) :: st) σ) : ax_W sh d M Q pc lv (ax_l y :: ax_l x :: st) σ := by
  subst hq
  intro l dC dI G A p e R s m args below meth c C H locs ls hP hS hl
  exact lv_ladd C.1 C.2.1 hd (k l dC dI G A p e R s m args below meth c C H locs ls hP hS hl)
theorem ax_lsub {x y : Int64} (hd : decode M.2.1 pc = .ok (.lsub, 1)) (hq : pc + 1 = q)  (k : ax_W sh d M Q q lv (ax_l (x - y) :: st) σ) : ax_W sh d M Q pc lv (ax_l y :: ax_l x :: st) σ := by
  subst hq
  intro l dC dI G A p e R s m args below meth c C H locs ls hP hS hl
  exact lv_lsub C.1 C.2.1 hd (k l dC dI G A p e R s m args below meth c C H locs ls hP hS hl)
theorem ax_lmul {x y : Int64} (hd : decode M.2.1 pc = .ok (.lmul, 1)) (hq : pc + 1 = q)  (k : ax_W sh d M Q q lv (ax_l (x * y) :: st) σ) : ax_W sh d M Q pc lv (ax_l y :: ax_l x :: st) σ := by
  subst hq
  intro l dC dI G A p e R s m args below meth c C H locs ls hP hS hl
  exact lv_lmul C.1 C.2.1 hd (k l dC dI G A p e R s m args below meth c C H locs ls hP hS hl)
theorem ax_land {x y : Int64} (hd : decode M.2.1 pc = .ok (.land, 1)) (hq : pc + 1 = q)  (k : ax_W sh d M Q q lv (ax_l (x &&& y) :: st) σ) : ax_W sh d M Q pc lv (ax_l y :: ax_l x :: st) σ := by
  subst hq
  intro l dC dI G A p e R s m args below meth c C H locs ls hP hS hl
  exact lv_land C.1 C.2.1 hd (k l dC dI G A p e R s m args below meth c C H locs ls hP hS hl)
theorem ax_lor {x y : Int64} (hd : decode M.2.1 pc = .ok (.lor, 1)) (hq : pc + 1 = q)  (k : ax_W sh d M Q q lv (ax_l (x ||| y) :: st) σ) : ax_W sh d M Q pc lv (ax_l y :: ax_l x :: st) σ := by
  subst hq
  intro l dC dI G A p e R s m args below meth c C H locs ls hP hS hl
  exact lv_lor C.1 C.2.1 hd (k l dC dI G A p e R s m args below meth c C H locs ls hP hS hl)
theorem ax_ldiv {x y : Int64} (hd : decode M.2.1 pc = .ok (.ldiv, 1)) (hq : pc + 1 = q) (hne : ¬ y = 0) (k : ax_W sh d M Q q lv (ax_l (x / y) :: st) σ) : ax_W sh d M Q pc lv (ax_l y :: ax_l x :: st) σ := by
  subst hq
  intro l dC dI G A p e R s m args below meth c C H locs ls hP hS hl
  exact lv_ldiv C.1 C.2.1 hd hne (k l dC dI G A p e R s m args below meth c C H locs ls hP hS hl)
theorem ax_lrem {x y : Int64} (hd : decode M.2.1 pc = .ok (.lrem, 1)) (hq : pc + 1 = q) (hne : ¬ y = 0) (k : ax_W sh d M Q q lv (ax_l (x - x / y * y) :: st) σ) : ax_W sh d M Q pc lv (ax_l y :: ax_l x :: st) σ := by
  subst hq
  intro l dC dI G A p e R s m args below meth c C H locs ls hP hS hl
  exact lv_lrem C.1 C.2.1 hd hne (k l dC dI G A p e R s m args below meth c C H locs ls hP hS hl)
theorem ax_i2l {x : Int32} (hd : decode M.2.1 pc = .ok (.i2l, 1)) (hq : pc + 1 = q)  (k : ax_W sh d M Q q lv (ax_l x.toInt64 :: st) σ) : ax_W sh d M Q pc lv (ax_i x :: st) σ := by
  subst hq
  intro l dC dI G A p e R s m args below meth c C H locs ls hP hS hl
  exact lv_i2l C.1 C.2.1 hd rfl (k l dC dI G A p e R s m args below meth c C H locs ls hP hS hl)
theorem ax_l2i {x : Int64} (hd : decode M.2.1 pc = .ok (.l2i, 1)) (hq : pc + 1 = q)  (k : ax_W sh d M Q q lv (ax_i x.toInt32 :: st) σ) : ax_W sh d M Q pc lv (ax_l x :: st) σ := by
  subst hq
  intro l dC dI G A p e R s m args below meth c C H locs ls hP hS hl
  exact lv_l2i C.1 C.2.1 hd rfl (k l dC dI G A p e R s m args below meth c C H locs ls hP hS hl)
theorem ax_lushr {x : Int64} {y : Int32} (hd : decode M.2.1 pc = .ok (.lushr, 1)) (hq : pc + 1 = q)  (k : ax_W sh d M Q q lv (ax_l ((x.toUInt64 >>> (y.toInt64.toUInt64 &&& Int64.toUInt64 63)).toInt64) :: st) σ) : ax_W sh d M Q pc lv (ax_i y :: ax_l x :: st) σ := by
  subst hq
  intro l dC dI G A p e R s m args below meth c C H locs ls hP hS hl
  exact lv_lushr C.1 C.2.1 hd rfl (k l dC dI G A p e R s m args below meth c C H locs ls hP hS hl)
theorem ax_lshl {x : Int64} {y : Int32} (hd : decode M.2.1 pc = .ok (.lshl, 1)) (hq : pc + 1 = q)  (k : ax_W sh d M Q q lv (ax_l (x <<< (y.toInt64 &&& 63)) :: st) σ) : ax_W sh d M Q pc lv (ax_i y :: ax_l x :: st) σ := by
  subst hq
  intro l dC dI G A p e R s m args below meth c C H locs ls hP hS hl
  exact lv_lshl C.1 C.2.1 hd rfl (k l dC dI G A p e R s m args below meth c C H locs ls hP hS hl)
theorem ax_dupi {x : Int32} (hd : decode M.2.1 pc = .ok (.dup, 1)) (hq : pc + 1 = q)  (k : ax_W sh d M Q q lv (ax_i x :: ax_i x :: st) σ) : ax_W sh d M Q pc lv (ax_i x :: st) σ := by
  subst hq
  intro l dC dI G A p e R s m args below meth c C H locs ls hP hS hl
  exact lv_dup C.1 C.2.1 hd rfl (k l dC dI G A p e R s m args below meth c C H locs ls hP hS hl)
theorem ax_dupr {x : Nat} (hd : decode M.2.1 pc = .ok (.dup, 1)) (hq : pc + 1 = q)  (k : ax_W sh d M Q q lv (ax_r x :: ax_r x :: st) σ) : ax_W sh d M Q pc lv (ax_r x :: st) σ := by
  subst hq
  intro l dC dI G A p e R s m args below meth c C H locs ls hP hS hl
  exact lv_dup C.1 C.2.1 hd rfl (k l dC dI G A p e R s m args below meth c C H locs ls hP hS hl)
theorem ax_popi {x : Int32} (hd : decode M.2.1 pc = .ok (.pop, 1)) (hq : pc + 1 = q)  (k : ax_W sh d M Q q lv (st) σ) : ax_W sh d M Q pc lv (ax_i x :: st) σ := by
  subst hq
  intro l dC dI G A p e R s m args below meth c C H locs ls hP hS hl
  exact lv_pop C.1 C.2.1 hd rfl (k l dC dI G A p e R s m args below meth c C H locs ls hP hS hl)
theorem ax_dup2_11 {x : Int32} {y : Nat} (hd : decode M.2.1 pc = .ok (.dup2, 1)) (hq : pc + 1 = q)  (k : ax_W sh d M Q q lv (ax_i x :: ax_r y :: ax_i x :: ax_r y :: st) σ) : ax_W sh d M Q pc lv (ax_i x :: ax_r y :: st) σ := by
  subst hq
  intro l dC dI G A p e R s m args below meth c C H locs ls hP hS hl
  exact lv_dup2_11 C.1 C.2.1 hd rfl rfl (k l dC dI G A p e R s m args below meth c C H locs ls hP hS hl)
theorem ax_dup2_2 {x : Int64} (hd : decode M.2.1 pc = .ok (.dup2, 1)) (hq : pc + 1 = q)  (k : ax_W sh d M Q q lv (ax_l x :: ax_l x :: st) σ) : ax_W sh d M Q pc lv (ax_l x :: st) σ := by
  subst hq
  intro l dC dI G A p e R s m args below meth c C H locs ls hP hS hl
  exact lv_dup2_2 C.1 C.2.1 hd rfl (k l dC dI G A p e R s m args below meth c C H locs ls hP hS hl)
theorem ax_if_eq {x : Int32} {off : Int} {tgt : Nat} (hd : decode M.2.1 pc = .ok (.ifCond .eq off, 3)) (ht : (pc : Int) + off = (tgt : Int)) (hq : pc + 3 = q) (kt : x = 0 → ax_W sh d M Q tgt lv st σ) (kf : ¬ (x = 0) → ax_W sh d M Q q lv st σ) : ax_W sh d M Q pc lv (ax_i x :: st) σ := by
  subst hq
  intro l dC dI G A p e R s m args below meth c C H locs ls hP hS hl
  exact lv_if_eq C.1 C.2.1 hd ht (fun hc => kt (by first | exact hc | simpa using hc) l dC dI G A p e R s m args below meth c C H locs ls hP hS hl) (fun hc => kf (by first | exact hc | simpa using hc) l dC dI G A p e R s m args below meth c C H locs ls hP hS hl)
theorem ax_icmp_eq {x y : Int32} {off : Int} {tgt : Nat} (hd : decode M.2.1 pc = .ok (.if_icmp .eq off, 3)) (ht : (pc : Int) + off = (tgt : Int)) (hq : pc + 3 = q) (kt : x = y → ax_W sh d M Q tgt lv st σ) (kf : ¬ (x = y) → ax_W sh d M Q q lv st σ) : ax_W sh d M Q pc lv (ax_i y :: ax_i x :: st) σ := by
  subst hq
  intro l dC dI G A p e R s m args below meth c C H locs ls hP hS hl
  exact lv_icmp_eq C.1 C.2.1 hd ht (fun hc => kt (by first | exact hc | simpa using hc) l dC dI G A p e R s m args below meth c C H locs ls hP hS hl) (fun hc => kf (by first | exact hc | simpa using hc) l dC dI G A p e R s m args below meth c C H locs ls hP hS hl)
theorem ax_if_ne {x : Int32} {off : Int} {tgt : Nat} (hd : decode M.2.1 pc = .ok (.ifCond .ne off, 3)) (ht : (pc : Int) + off = (tgt : Int)) (hq : pc + 3 = q) (kt : ¬ x = 0 → ax_W sh d M Q tgt lv st σ) (kf : ¬ (¬ x = 0) → ax_W sh d M Q q lv st σ) : ax_W sh d M Q pc lv (ax_i x :: st) σ := by
  subst hq
  intro l dC dI G A p e R s m args below meth c C H locs ls hP hS hl
  exact lv_if_ne C.1 C.2.1 hd ht (fun hc => kt (by first | exact hc | simpa using hc) l dC dI G A p e R s m args below meth c C H locs ls hP hS hl) (fun hc => kf (by first | exact hc | simpa using hc) l dC dI G A p e R s m args below meth c C H locs ls hP hS hl)
theorem ax_icmp_ne {x y : Int32} {off : Int} {tgt : Nat} (hd : decode M.2.1 pc = .ok (.if_icmp .ne off, 3)) (ht : (pc : Int) + off = (tgt : Int)) (hq : pc + 3 = q) (kt : ¬ x = y → ax_W sh d M Q tgt lv st σ) (kf : ¬ (¬ x = y) → ax_W sh d M Q q lv st σ) : ax_W sh d M Q pc lv (ax_i y :: ax_i x :: st) σ := by
  subst hq
  intro l dC dI G A p e R s m args below meth c C H locs ls hP hS hl
  exact lv_icmp_ne C.1 C.2.1 hd ht (fun hc => kt (by first | exact hc | simpa using hc) l dC dI G A p e R s m args below meth c C H locs ls hP hS hl) (fun hc => kf (by first | exact hc | simpa using hc) l dC dI G A p e R s m args below meth c C H locs ls hP hS hl)
theorem ax_if_lt {x : Int32} {off : Int} {tgt : Nat} (hd : decode M.2.1 pc = .ok (.ifCond .lt off, 3)) (ht : (pc : Int) + off = (tgt : Int)) (hq : pc + 3 = q) (kt : x < 0 → ax_W sh d M Q tgt lv st σ) (kf : ¬ (x < 0) → ax_W sh d M Q q lv st σ) : ax_W sh d M Q pc lv (ax_i x :: st) σ := by
  subst hq
  intro l dC dI G A p e R s m args below meth c C H locs ls hP hS hl
  exact lv_if_lt C.1 C.2.1 hd ht (fun hc => kt (by first | exact hc | simpa using hc) l dC dI G A p e R s m args below meth c C H locs ls hP hS hl) (fun hc => kf (by first | exact hc | simpa using hc) l dC dI G A p e R s m args below meth c C H locs ls hP hS hl)
theorem ax_icmp_lt {x y : Int32} {off : Int} {tgt : Nat} (hd : decode M.2.1 pc = .ok (.if_icmp .lt off, 3)) (ht : (pc : Int) + off = (tgt : Int)) (hq : pc + 3 = q) (kt : x < y → ax_W sh d M Q tgt lv st σ) (kf : ¬ (x < y) → ax_W sh d M Q q lv st σ) : ax_W sh d M Q pc lv (ax_i y :: ax_i x :: st) σ := by
  subst hq
  intro l dC dI G A p e R s m args below meth c C H locs ls hP hS hl
  exact lv_icmp_lt C.1 C.2.1 hd ht (fun hc => kt (by first | exact hc | simpa using hc) l dC dI G A p e R s m args below meth c C H locs ls hP hS hl) (fun hc => kf (by first | exact hc | simpa using hc) l dC dI G A p e R s m args below meth c C H locs ls hP hS hl)
theorem ax_if_ge {x : Int32} {off : Int} {tgt : Nat} (hd : decode M.2.1 pc = .ok (.ifCond .ge off, 3)) (ht : (pc : Int) + off = (tgt : Int)) (hq : pc + 3 = q) (kt : 0 ≤ x → ax_W sh d M Q tgt lv st σ) (kf : ¬ (0 ≤ x) → ax_W sh d M Q q lv st σ) : ax_W sh d M Q pc lv (ax_i x :: st) σ := by
  subst hq
  intro l dC dI G A p e R s m args below meth c C H locs ls hP hS hl
  exact lv_if_ge C.1 C.2.1 hd ht (fun hc => kt (by first | exact hc | simpa using hc) l dC dI G A p e R s m args below meth c C H locs ls hP hS hl) (fun hc => kf (by first | exact hc | simpa using hc) l dC dI G A p e R s m args below meth c C H locs ls hP hS hl)
theorem ax_icmp_ge {x y : Int32} {off : Int} {tgt : Nat} (hd : decode M.2.1 pc = .ok (.if_icmp .ge off, 3)) (ht : (pc : Int) + off = (tgt : Int)) (hq : pc + 3 = q) (kt : y ≤ x → ax_W sh d M Q tgt lv st σ) (kf : ¬ (y ≤ x) → ax_W sh d M Q q lv st σ) : ax_W sh d M Q pc lv (ax_i y :: ax_i x :: st) σ := by
  subst hq
  intro l dC dI G A p e R s m args below meth c C H locs ls hP hS hl
  exact lv_icmp_ge C.1 C.2.1 hd ht (fun hc => kt (by first | exact hc | simpa using hc) l dC dI G A p e R s m args below meth c C H locs ls hP hS hl) (fun hc => kf (by first | exact hc | simpa using hc) l dC dI G A p e R s m args below meth c C H locs ls hP hS hl)
theorem ax_if_gt {x : Int32} {off : Int} {tgt : Nat} (hd : decode M.2.1 pc = .ok (.ifCond .gt off, 3)) (ht : (pc : Int) + off = (tgt : Int)) (hq : pc + 3 = q) (kt : 0 < x → ax_W sh d M Q tgt lv st σ) (kf : ¬ (0 < x) → ax_W sh d M Q q lv st σ) : ax_W sh d M Q pc lv (ax_i x :: st) σ := by
  subst hq
  intro l dC dI G A p e R s m args below meth c C H locs ls hP hS hl
  exact lv_if_gt C.1 C.2.1 hd ht (fun hc => kt (by first | exact hc | simpa using hc) l dC dI G A p e R s m args below meth c C H locs ls hP hS hl) (fun hc => kf (by first | exact hc | simpa using hc) l dC dI G A p e R s m args below meth c C H locs ls hP hS hl)
theorem ax_icmp_gt {x y : Int32} {off : Int} {tgt : Nat} (hd : decode M.2.1 pc = .ok (.if_icmp .gt off, 3)) (ht : (pc : Int) + off = (tgt : Int)) (hq : pc + 3 = q) (kt : y < x → ax_W sh d M Q tgt lv st σ) (kf : ¬ (y < x) → ax_W sh d M Q q lv st σ) : ax_W sh d M Q pc lv (ax_i y :: ax_i x :: st) σ := by
  subst hq
  intro l dC dI G A p e R s m args below meth c C H locs ls hP hS hl
  exact lv_icmp_gt C.1 C.2.1 hd ht (fun hc => kt (by first | exact hc | simpa using hc) l dC dI G A p e R s m args below meth c C H locs ls hP hS hl) (fun hc => kf (by first | exact hc | simpa using hc) l dC dI G A p e R s m args below meth c C H locs ls hP hS hl)
theorem ax_if_le {x : Int32} {off : Int} {tgt : Nat} (hd : decode M.2.1 pc = .ok (.ifCond .le off, 3)) (ht : (pc : Int) + off = (tgt : Int)) (hq : pc + 3 = q) (kt : x ≤ 0 → ax_W sh d M Q tgt lv st σ) (kf : ¬ (x ≤ 0) → ax_W sh d M Q q lv st σ) : ax_W sh d M Q pc lv (ax_i x :: st) σ := by
  subst hq
  intro l dC dI G A p e R s m args below meth c C H locs ls hP hS hl
  exact lv_if_le C.1 C.2.1 hd ht (fun hc => kt (by first | exact hc | simpa using hc) l dC dI G A p e R s m args below meth c C H locs ls hP hS hl) (fun hc => kf (by first | exact hc | simpa using hc) l dC dI G A p e R s m args below meth c C H locs ls hP hS hl)
theorem ax_icmp_le {x y : Int32} {off : Int} {tgt : Nat} (hd : decode M.2.1 pc = .ok (.if_icmp .le off, 3)) (ht : (pc : Int) + off = (tgt : Int)) (hq : pc + 3 = q) (kt : x ≤ y → ax_W sh d M Q tgt lv st σ) (kf : ¬ (x ≤ y) → ax_W sh d M Q q lv st σ) : ax_W sh d M Q pc lv (ax_i y :: ax_i x :: st) σ := by
  subst hq
  intro l dC dI G A p e R s m args below meth c C H locs ls hP hS hl
  exact lv_icmp_le C.1 C.2.1 hd ht (fun hc => kt (by first | exact hc | simpa using hc) l dC dI G A p e R s m args below meth c C H locs ls hP hS hl) (fun hc => kf (by first | exact hc | simpa using hc) l dC dI G A p e R s m args below meth c C H locs ls hP hS hl)
theorem ax_goto {off : Int} {tgt : Nat} (hd : decode M.2.1 pc = .ok (.goto off, 3)) (ht : (pc : Int) + off = (tgt : Int)) (k : ax_W sh d M Q tgt lv st σ) : ax_W sh d M Q pc lv st σ := by
  intro l dC dI G A p e R s m args below meth c C H locs ls hP hS hl
  exact lv_goto C.1 C.2.1 hd ht (k l dC dI G A p e R s m args below meth c C H locs ls hP hS hl)
theorem ax_tableIn {dflt lo hi : Int} {offs : Array Int} {len : Nat} {x : Int32} {off : Int} {tgt : Nat} (hd : decode M.2.1 pc = .ok (.tableswitch dflt lo hi offs, len)) (h1 : ¬ x.toInt < lo) (h2 : ¬ hi < x.toInt) (ho : offs[(x.toInt - lo).toNat]? = some off) (ht : (pc : Int) + off = (tgt : Int)) (k : ax_W sh d M Q tgt lv st σ) : ax_W sh d M Q pc lv (ax_i x :: st) σ := by
  intro l dC dI G A p e R s m args below meth c C H locs ls hP hS hl
  exact lv_tableIn C.1 C.2.1 hd h1 h2 ho ht (k l dC dI G A p e R s m args below meth c C H locs ls hP hS hl)
theorem ax_tableOut {dflt lo hi : Int} {offs : Array Int} {len : Nat} {x : Int32} {tgt : Nat} (hd : decode M.2.1 pc = .ok (.tableswitch dflt lo hi offs, len)) (h : x.toInt < lo ∨ hi < x.toInt) (ht : (pc : Int) + dflt = (tgt : Int)) (k : ax_W sh d M Q tgt lv st σ) : ax_W sh d M Q pc lv (ax_i x :: st) σ := by
  intro l dC dI G A p e R s m args below meth c C H locs ls hP hS hl
  exact lv_tableOut C.1 C.2.1 hd h ht (k l dC dI G A p e R s m args below meth c C H locs ls hP hS hl)
theorem ax_lookup {dflt : Int} {ps : Array (Int × Int)} {len : Nat} {x : Int32} {off : Int} {tgt : Nat} (hd : decode M.2.1 pc = .ok (.lookupswitch dflt ps, len)) (hp : (ps.toList.zip (ps.toList.drop 1)).all (fun (a, next) => a.1 < next.1) = true) (ho : Op.lookupswitch.offset ps.toList dflt x.toInt = off) (ht : (pc : Int) + off = (tgt : Int)) (k : ax_W sh d M Q tgt lv st σ) : ax_W sh d M Q pc lv (ax_i x :: st) σ := by
  intro l dC dI G A p e R s m args below meth c C H locs ls hP hS hl
  exact lv_lookup C.1 C.2.1 hd hp ho ht (k l dC dI G A p e R s m args below meth c C H locs ls hP hS hl)
theorem ax_lcmp {x y : Int64} (hd : decode M.2.1 pc = .ok (.lcmp, 1)) (hq : pc + 1 = q) (k : ax_W sh d M Q q lv (ax_i (lg_cmp x y) :: st) σ) : ax_W sh d M Q pc lv (ax_l y :: ax_l x :: st) σ := by
  subst hq
  intro l dC dI G A p e R s m args below meth c C H locs ls hP hS hl
  exact W.lcmp C.1 C.2.1 hd (k l dC dI G A p e R s m args below meth c C H locs ls hP hS hl)
theorem ax_iret {x : Int32} {ty : FieldType} (hd : decode M.2.1 pc = .ok (.ireturn, 1)) (hr : M.2.2.2 = some ty) (hn : narrow ty (.int x) = .int x) (hQ : Q (some (ax_i x)) σ) : ax_W sh d M Q pc lv [ax_i x] σ := by
  intro l dC dI G A p e R s m args below meth c C H locs ls hP hS hl
  have hlocks := C.2.2.2.2.2.1
  exact W.zret C.1 C.2.1 (C.2.2.2.1.trans hr) hn (fun t ht hW => ⟨⟨some (ax_i x), σ, rfl, hQ, by rw [ht]; exact hP⟩, hS.F ht⟩) hS.2.2 hd
theorem ax_lret {x : Int64} (hd : decode M.2.1 pc = .ok (.lreturn, 1)) (hr : M.2.2.2 = some .long) (hQ : Q (some (ax_l x)) σ) : ax_W sh d M Q pc lv [ax_l x] σ := by
  intro l dC dI G A p e R s m args below meth c C H locs ls hP hS hl
  have hlocks := C.2.2.2.2.2.1
  exact W.lret C.1 C.2.1 (C.2.2.2.1.trans hr) (fun t ht hW => ⟨⟨some (ax_l x), σ, rfl, hQ, by rw [ht]; exact hP⟩, hS.F ht⟩) hS.2.2 hd
theorem ax_vret (hd : decode M.2.1 pc = .ok (.return_, 1)) (hr : M.2.2.2 = none) (hQ : Q none σ) : ax_W sh d M Q pc lv [] σ := by
  intro l dC dI G A p e R s m args below meth c C H locs ls hP hS hl
  have hlocks := C.2.2.2.2.2.1
  exact W.vret C.1 C.2.1 (C.2.2.2.1.trans hr) (fun t ht hW => ⟨⟨none, σ, rfl, hQ, by rw [ht]; exact hP⟩, hS.F ht⟩) hS.2.2 hd
end AX
