/-! THE CLAIM OUT OF ONE WALK OF THE LAW'S BODY. Your part is whole_start (and what it stands on); all else here is the same for every law, but numbers. -/
def R_law : String := "CopperTiesLaw"
def lw_P (b : Addr) (xs : List Int32) (args : Array Value) (s : State) : Prop := args = #[.ref b] ∧ s.IntsAt b xs ∧ xs.length ≤ 3584 ∧ (Jvm.Cond.and given_1 narrow_1).before args s = true
def lw_Q (_ : Array Value) (s : State) (o : Outcome) (t : State) : Prop := o = .returned (some (.int 1)) ∧ Framed s o t [] 601024 7293034
def lw_Z (below : List Frame) (a : Array Value) (s : State) : State → Prop := fun t => ∃ o, t.status = .running ∧ Ended t below o ∧ lw_Q a s o t
/-- the law's own end, with 1 on the stack, nothing written that was there before, its room as the claim has it -/
theorem lw_ret {p : Program} {l : Launch} {e : Env} {s : State} {m : MethodId} {below : List Frame} {meth : Method} {c : Code} {b : Nat} (hx : p.tables.exec = Jvm.exec) (hb : c.code = code) (hr : meth.sig.returnType = ret) (hlocks : meth.locks = false) {pc : Nat} {H : Heap} {ls : Array Slot} (hdg : decode code pc = .ok (.ireturn, 1)) : W p l e room_1 s m #[Value.ref b] below meth c H [] 601024 7293034 (lw_Z below #[Value.ref b] s) (F0 m pc ls [.int 1]) := by
  intro T hT X
  obtain ⟨fs, hret, hrun, hended, hW, hframe⟩ := X.leave (v := some (.int 1)) (hlocks := hlocks) (fun h => by rw [hr] at h; cases h)
  have hmeth' : T.vm.method? m = some meth := X.method'
  refine ⟨T.setFrames fs, ?_, .returned (some (.int 1)), hrun, hended, rfl, ⟨_, rfl⟩, hW, hframe⟩
  jvm_step X.here [X.here.top, hx, hb, hdg, hmeth', hr, ret, narrow_b1]
  (try refine ⟨rfl, ?_⟩); (try refine ⟨rfl, ?_⟩)
  first | (intro acts; rw [hret _ acts rfl rfl rfl]) | rw [hret _ _ rfl rfl rfl]
  exact Steps.refl _
/-- what holds at the law's entry: the machine, the code, the tables' words (any of lw_tbl by 'hts w (by decide +kernel)'), the script of L ints xs at the cell b, what the Statement gives of the start (any of its parts by flat_of_before) -/
def lw_At (p : Program) (s : State) (m : MethodId) (meth : Method) (c : Code) (b L : Nat) (xs : Nat → Int32) : Prop :=
  p.tables.exec = Jvm.exec ∧ c.code = code ∧ meth.sig.returnType = ret ∧ c.maxLocals = 7 ∧ s.vm.findClass R_law = some m.cls ∧ (∀ w ∈ lw_tbl, w.before #[Value.ref b] s = true) ∧ va_X b L xs s s.heap ∧ b < s.heap.size ∧ meth.locks = false ∧ (Jvm.Cond.and given_1 narrow_1).before #[Value.ref b] s = true
set_option maxHeartbeats 1000000 in
set_option maxRecDepth 20000 in
/-- from the loop's first head on -/
theorem ws_3 {p : Program} {e : Env} {s : State} {m : MethodId} {below : List Frame} {meth : Method} {c : Code} (l : Launch) (hst : l.stackTraces = false) {b L : Nat} {xs : Nat → Int32} (hL : L ≤ 3584) {dC : Nat → ClassId} {dI : Nat → Nat → Nat} {cI cZ cJ : ClassId} {st ad ad' : Nat → Nat} {sa sb ob : Nat}
    (hx : p.tables.exec = Jvm.exec) (hb : c.code = cL_law) (hr : meth.sig.returnType = ret) (hml : c.maxLocals = 7) (hown : s.vm.findClass RL = some m.cls) (htU : ∀ w ∈ ax_U, w.before #[Value.ref b] s = true) (hX : va_X b L xs s s.heap) (hbl : b < s.heap.size) (hlocks : meth.locks = false)
    (hst1 : ∀ (k : Nat) (r : String × String × String × FieldType × List Int32), ax_st[k]? = some r → va_Z r.1 r.2.1 r.2.2.1 (.ref (st k)) (fun q => s.heap.size ≤ q) s s.heap ∧ va_T r.2.2.2.1 (st k) r.2.2.2.2.length (fun j => .int (r.2.2.2.2.getD j 0)) (fun q => s.heap.size ≤ q) s s.heap)
    (hX0 : hsX (fun q => s.heap.size ≤ q) sa sb s s.heap) (hne : ∀ w ∈ ax_ne, va_Nw w s) (hK : va_K (dC, dI) vwCl [(cI, .int), (cZ, .boolean)] s) (hKJ : va_K (dC, dI) vwCl [(cJ, .long)] s)
    {H : Heap} {locs : List Loc} {ls : Array Slot} (hP : va_P (dC, dI) vwCl ((ax_w shC (ad, cI, cZ) sgC ++ ax_w shM (ad', cI, cZ) sgM) ++ [(ob, .inl (cJ, 1, .inr (.inl (fun _ => 0))))]) H) (hD : va_D (fun q : Nat => s.heap.size ≤ q) ((ax_w shC (ad, cI, cZ) sgC ++ ax_w shM (ad', cI, cZ) sgM) ++ [(ob, .inl (cJ, 1, .inr (.inl (fun _ => 0))))])) (hS : va_S (fun q : Nat => s.heap.size ≤ q) s.heap H locs) (hl : lv_has ls 7 [(4, .int 0), (3, .ref ob), (2, .ref (ad' 0)), (1, .ref (ad 0)), (0, .ref b)]) :
    W p l e room_1 s m #[Value.ref b] below meth c H locs 77 23316 (lw_Z below #[Value.ref b] s) (F0 m 23 ls []) := by
  have hPC : va_P (dC, dI) vwCl (ax_w shC (adx ad st, cI, cZ) sgC) H := by rw [adx_C]; exact va_P_l (va_P_l hP)
  have hPM : va_P (dC, dI) vwCl (ax_w shM (adx ad' st, cI, cZ) sgM) H := by rw [adx_M]; exact va_P_r (va_P_l hP)
  have hPO : va_P (dC, dI) vwCl (wof ob cJ (fun _ => 0)) H := va_P_r hP
  have hDCM : va_D (fun q : Nat => s.heap.size ≤ q) (ax_w shC (adx ad st, cI, cZ) sgC ++ ax_w shM (adx ad' st, cI, cZ) sgM) := by rw [adx_C, adx_M]; exact va_D_l hD
  have hDA : va_D (fun q : Nat => s.heap.size ≤ q) ((ax_w shC (adx ad st, cI, cZ) sgC ++ ax_w shM (adx ad' st, cI, cZ) sgM) ++ [(ob, .inl (cJ, 1, .inr (.inl (fun _ => 0))))]) := by rw [adx_C, adx_M]; exact hD
  obtain ⟨iC, aC⟩ := ax_D_of (va_D_l hDCM)
  obtain ⟨iM, aM⟩ := ax_D_of (va_D_r hDCM)
  have hob : s.heap.size ≤ ob := (va_D_r hDA).2 0 _ rfl
  have kC : ax_K dC dI (adx ad st, cI, cZ) (fun q => s.heap.size ≤ q) s s.heap := ⟨hK, fun k r hr => by
    show va_Z r.1 r.2.1 r.2.2.1 (.ref (adx ad st (1000 + k))) _ s s.heap ∧ va_T r.2.2.2.1 (adx ad st (1000 + k)) _ _ _ s s.heap
    rw [adx_st]; exact hst1 k r hr, hne⟩
  have kM : ax_K dC dI (adx ad' st, cI, cZ) (fun q => s.heap.size ≤ q) s s.heap := ⟨hK, fun k r hr => by
    show va_Z r.1 r.2.1 r.2.2.1 (.ref (adx ad' st (1000 + k))) _ s s.heap ∧ va_T r.2.2.2.1 (adx ad' st (1000 + k)) _ _ _ s s.heap
    rw [adx_st]; exact hst1 k r hr, hne⟩
  have hap : ∀ i j, i < shC.length → j < shM.length → adx ad st i ≠ adx ad' st j := fun i j hi hj => by
    obtain ⟨e1, h1⟩ := ax_w_ex (G := (adx ad st, cI, cZ)) (σ := sgC) hi
    obtain ⟨e2, h2⟩ := ax_w_ex (G := (adx ad' st, cI, cZ)) (σ := sgM) hj
    exact va_D_x hDCM h1 h2
  have hoC : ∀ i, i < shC.length → adx ad st i ≠ ob := fun i hi => by
    obtain ⟨e1, h1⟩ := ax_w_ex (G := (adx ad st, cI, cZ)) (σ := sgC) hi
    exact va_D_x (j := 0) hDA (app_l h1) rfl
  have hoM : ∀ i, i < shM.length → adx ad' st i ≠ ob := fun i hi => by
    obtain ⟨e1, h1⟩ := ax_w_ex (G := (adx ad' st, cI, cZ)) (σ := sgM) hi
    exact va_D_x (j := 0) hDA (app_r h1) rfl
  have CB : ∀ (F : Nat → Int64) (j : Nat), j ≤ 513 → bL RL cL_law 7 dC dI (adx ad st, cI, cZ) (adx ad' st, cI, cZ) (wof ob cJ F) (77 + j) (23316 + 6 * j) p room_1 s m #[Value.ref b] c := fun F j hj =>
    ⟨⟨hx, hb, hml, hown, htU⟩, ⟨kC, kM, iC, iM⟩, ⟨aC, aM, hap, fun k q hq => by
      rw [List.mem_singleton.mp (List.mem_of_getElem? hq)]
      exact ⟨hoC, hoM⟩⟩, (Nat.le_of_ble_eq_true rfl), (Nat.le_of_ble_eq_true rfl), by show 77 + j ≤ 601024; omega, by show 23316 + 6 * j ≤ 7293034; omega⟩
  refine W.widen (k := 77 + 0) (n := 23316 + 6 * 0) (Nat.le_of_ble_eq_true rfl) (Nat.le_of_ble_eq_true rfl) ?_
  refine law_loop (G := (adx ad st, cI, cZ)) (G' := (adx ad' st, cI, cZ)) 77 23316 hst CB ⟨(Nat.le_of_ble_eq_true rfl), (Nat.le_of_ble_eq_true rfl)⟩ ⟨(Nat.le_of_ble_eq_true rfl), (Nat.le_of_ble_eq_true rfl)⟩ hKJ hX0 hob hX hbl hL (fun i F j σ τ hj H locs ls hC hMM hwo hS hl => ?_) L 0 0 (fun _ => 0) sgC sgM (by omega) (by omega) (by omega) RR_0 H locs ls hPC hPM hPO hS (lv_sub hl [0, 4, 3, 2, 1] rfl)
  refine lv_iconst (v := 1) hx hb dL_law_1824 (by decide) ?_
  refine va_forget (fun q hq => hS.2.2 q hq) ?_
  refine W.widen (k := 601024) (n := 7293034) (by omega) (by omega) ?_
  exact lw_ret hx hb hr hlocks dL_law_1825
set_option maxHeartbeats 1000000 in
set_option maxRecDepth 20000 in
theorem whole_start {p : Program} {e : Env} {s : State} {m : MethodId} {below : List Frame} {meth : Method} {c : Code} (l : Launch) (hflags : l.flags = flags0) {b L : Nat} {xs : Nat → Int32} (hL : L ≤ 3584) (C0 : lw_At p s m meth c b L xs) : W p l e room_1 s m #[Value.ref b] below meth c s.heap [] 0 0 (lw_Z below #[Value.ref b] s) (entryFrame m ([Value.ref b] : List Value).toArray 7) := by
  obtain ⟨hx, hb, hr, hml, hown, hts, hX, hbl, hlocks, hgv⟩ := id C0
  have hst : l.stackTraces = false := by unfold Launch.stackTraces; rw [hflags]; decide
  have hs : ∀ w ∈ flN, w.before #[Value.ref b] s = true := flat_of_before _ hgv
  have htU : ∀ w ∈ ax_U, w.before #[Value.ref b] s = true := fun w h => hts w (ax_Uin w h)
  have hown : s.vm.findClass RL = some m.cls := hown
  have hb : c.code = cL_law := hb
  obtain ⟨dC, dI, hKc⟩ := kn_all htU
  obtain ⟨cI, hI1, hI2⟩ := ac_int (htU _ cn_ai)
  obtain ⟨cZ, hZ1, hZ2⟩ := ac_bool (htU _ cn_az)
  obtain ⟨st, hst1⟩ := st_all hs hts
  obtain ⟨sa, sb, hX0⟩ := hs_all hs hts
  have hnl : ∀ w ∈ nlC, va_Nw w s := fun w hw => va_Nw.of (nl_t w hw) (hts w (nl_in w hw))
  have hne : ∀ w ∈ ax_ne, va_Nw w s := fun w hw => va_Nw.of (ne_t w hw) (hts w (ne_in w hw))
  have hK : va_K (dC, dI) vwCl [(cI, .int), (cZ, .boolean)] s := ⟨hKc, fun k q hq => by
    match k, hq with
    | 0, hq => cases hq; exact ⟨hI1, hI2⟩
    | 1, hq => cases hq; exact ⟨hZ1, hZ2⟩
    | k + 2, hq => simp at hq⟩
  have hA : ∀ q : Nat, s.heap.size ≤ q → (fun q : Nat => s.heap.size ≤ q) q := fun _ h => h
  have hS : va_S (fun q : Nat => s.heap.size ≤ q) s.heap s.heap [] := va_S.rf
  have hP : va_P (dC, dI) vwCl [] s.heap := fun k q h => by simp at h
  have hD : va_D (fun q : Nat => s.heap.size ≤ q) [] := ⟨fun i j p q h => by simp at h, fun k q h => by simp at h⟩
  have hl := lv_entry ([.ref b]) (n := 7) (Nat.le_of_ble_eq_true rfl)
  rw [lg_entry_eq]
  generalize (lg_sl ([.ref b]) ++ List.replicate (7 - (lg_sl ([.ref b])).length) Slot.unset).toArray = ls at hl ⊢
  have hl : lv_has ls 7 [(0, .ref b)] := hl
  refine va_new (ci := 11) (fs := [.null, .null, .null, .null, .null, .null, .null, .null, .null, .null, .null, .null, .null, .int 0, .int 0, .int 0, .int 0, .long 0, .long 0, .long 0]) (C := RX11) (T := TX11) (N := 20) hx hb htU ax_cu11 tyX11 tyX11_ok hown (htU _ ik_L8) (htU _ in_X11) (htU _ ii_X11) hK hP hD hS hA rfl df_X11 (Nat.le_of_ble_eq_true rfl) (Nat.le_of_ble_eq_true rfl) dL_law_0 (fun q0 H1 hP1 hD1 hS1 => ?_)
  refine lv_dup hx hb dL_law_3 rfl ?_
  have hF2 := jn_F (ws := []) hD1 hS1 hA
  refine va_callv (va_runI (As := []) (rest := [.ref q0]) ⟨hx, hb, hml, hown, htU⟩ (k_X11 l dC dI cI cZ q0 H1.size) (cwI 0 htU (ax_gd ic_X11) rfl rfl rfl (htU _ ii_X11) (htU _ il_L15) (htU _ im_X11) rfl (by decide +kernel) ⟨(Nat.le_of_ble_eq_true rfl), (Nat.le_of_ble_eq_true rfl)⟩) ⟨cnP_blind rfl, fun U hU hW => ⟨rfl, by rw [hU], by rw [hU]; exact jn_P (ws := []) hP1, va_K.moved hW.alike hK, nl_warm hW hnl⟩⟩ rfl rfl hl.1 rfl (lv_room (Nat.le_of_ble_eq_true rfl)) dL_law_4 ⟨(Nat.le_of_ble_eq_true rfl), (Nat.le_of_ble_eq_true rfl)⟩) hS1 (fun q _ h => hF2 q h) hF2 (fun u2 t2 H2 locs2 ht2 hvm2 hw2 hB2 hz2 hk2 hS2 => ?_)
  obtain ⟨ad, had, hPb, hDb⟩ := hB2
  rw [ht2] at hPb
  obtain ⟨hPc, hDc⟩ := jn (ws := []) hP1 hD1 hk2 hF2 hPb hDb
  rw [List.nil_append] at hPc hDc
  clear hPb hDb hk2 hF2 hP1 hD1 hS1
  refine lv_astore_n (lv' := [(1, .ref q0), (0, .ref b)]) hx hb dL_law_7 rfl hl (by decide) rfl (fun ls hl => ?_)
  refine va_new (ci := 12) (fs := [.int 0, .null, .int 0, .int 0, .int 0, .int 0, .null, .null, .null, .null, .null, .null, .null, .int 0, .int 0, .null, .null, .null, .null, .null, .int 0, .int 0, .null, .int 0, .int 0, .null, .null, .int 0, .int 0, .int 0, .null, .null, .null, .null, .int 0, .int 0, .null, .int 0, .long 0, .null, .int 0, .int 0, .null, .null, .null, .null, .int 0, .null, .null, .null, .int 0, .null, .int 0]) (C := RX12) (T := TX12) (N := 53) hx hb htU ax_cu12 tyX12 tyX12_ok hown (htU _ ik_L16) (htU _ in_X12) (htU _ ii_X12) hK hPc hDc hS2 hA rfl df_X12 (Nat.le_of_ble_eq_true rfl) (Nat.le_of_ble_eq_true rfl) dL_law_8 (fun q1 H3 hP3 hD3 hS3 => ?_)
  refine lv_dup hx hb dL_law_11 rfl ?_
  have hF4 := jn_F hD3 hS3 hA
  refine va_callv (va_runI (As := []) (rest := [.ref q1]) ⟨hx, hb, hml, hown, htU⟩ (k_X12 l dC dI cI cZ q1 H3.size) (cwI 0 htU (ax_gd ic_X12) rfl rfl rfl (htU _ ii_X12) (htU _ il_L18) (htU _ im_X12) rfl (by decide +kernel) ⟨(Nat.le_of_ble_eq_true rfl), (Nat.le_of_ble_eq_true rfl)⟩) ⟨cnP_blind rfl, fun U hU hW => ⟨rfl, by rw [hU], by rw [hU]; exact jn_P hP3, va_K.moved hW.alike hK, fun w hw => nomatch hw⟩⟩ rfl rfl hl.1 rfl (lv_room (Nat.le_of_ble_eq_true rfl)) dL_law_12 ⟨(Nat.le_of_ble_eq_true rfl), (Nat.le_of_ble_eq_true rfl)⟩) hS3 (fun q _ h => hF4 q h) hF4 (fun u4 t4 H4 locs4 ht4 hvm4 hw4 hB4 hz4 hk4 hS4 => ?_)
  obtain ⟨ad', had', hPd, hDd⟩ := hB4
  rw [ht4] at hPd
  obtain ⟨hPe, hDe⟩ := jn hP3 hD3 hk4 hF4 hPd hDd
  refine lv_astore_n (lv' := [(2, .ref q1), (1, .ref q0), (0, .ref b)]) hx hb dL_law_15 rfl hl (by decide) rfl (fun ls hl => ?_)
  refine lv_iconst (v := 1) hx hb dL_law_16 (by decide) ?_
  refine va_newa (atype := .long) (N' := 1) (a0 := (1, .inr (.inl (fun _ => 0)))) hx hb (htU _ cn_aj) rfl hK hPe hDe hS4 hA (fun _ => rfl) (by decide) (by decide) (Nat.le_of_ble_eq_true rfl) (Nat.le_of_ble_eq_true rfl) (Nat.le_of_ble_eq_true rfl) dL_law_17 (fun ob cJ H5 hK5 hP5 hD5 hS5 => ?_)
  have hKJ : va_K (dC, dI) vwCl [(cJ, .long)] s := hK5.sub [2] rfl
  refine lv_astore_n (lv' := [(3, .ref ob), (2, .ref q1), (1, .ref q0), (0, .ref b)]) hx hb dL_law_19 rfl hl (by decide) rfl (fun ls hl => ?_)
  refine lv_iconst (v := 0) hx hb dL_law_20 (by decide) ?_
  refine lv_istore (lv' := [(4, .int 0), (3, .ref ob), (2, .ref q1), (1, .ref q0), (0, .ref b)]) hx hb dL_law_21 hl (by decide) rfl (fun ls hl => ?_)
  refine W.widen (k := 77) (n := 23316) (Nat.le_of_ble_eq_true rfl) (Nat.le_of_ble_eq_true rfl) ?_
  exact ws_3 l hst hL hx hb hr hml hown htU hX hbl hlocks hst1 hX0 hne hK hKJ hP5 hD5 hS5 (by rw [had, had']; exact hl)
