/-! ===== house throws: the class's own throw, and what the law's `house` makes of it ===== -/
def hsQ : List Cond := [.castable hsE hsE, .declares (Bundle.initS hsY), .declares (Bundle.initS "java/lang/Exception"), .declares (Bundle.initS Bundle.tN)]
theorem hsQ_w {s U : State} (hW : s.WarmedH U.vm) (h : ∀ w ∈ hsQ, va_Nw w s) : ∀ w ∈ hsQ, va_Nw w U := fun w hw => by
  have h3 := h w hw
  simp only [hsQ, List.mem_cons, List.not_mem_nil, or_false] at hw
  rcases hw with rfl | rfl | rfl | rfl
  · exact va_Nw.warmC hW h3
  · exact va_Nw.warmD hW h3
  · exact va_Nw.warmD hW h3
  · exact va_Nw.warmD hW h3
theorem hsQ_t : ∀ w ∈ hsQ, w.onTables = true := by decide +kernel
theorem hsQ_0 : Cond.castable hsE hsE ∈ hsQ := List.mem_cons_self
def hsX (A : Nat → Prop) (sa sb : Nat) (U : State) (H : Heap) : Prop :=
  vk_R RX11 165 "no such house" sa U ∧ vk_R RX11 198 "no such thing of a house" sb U ∧ vx_Zq Bundle.tN "UNASSIGNED_STACK" Bundle.steD A U H ∧ vx_Zq Bundle.tN "SUPPRESSED_SENTINEL" Bundle.listD A U H ∧ ∀ w ∈ hsQ, va_Nw w U
theorem hsX.to {A B : Nat → Prop} {sa sb : Nat} {s U : State} {H0 H : Heap} (h : hsX A sa sb s H0) (hW : s.WarmedH U.vm) (hk : ∀ a : Nat, a < H0.size → ¬ A a → H[a]? = H0[a]?) (hB : ∀ q, B q → A q) : hsX B sa sb U H :=
  ⟨vk_R.warm hW h.1, vk_R.warm hW h.2.1, ((h.2.2.1.moved hW.alike).kept hk).narrow hB, ((h.2.2.2.1.moved hW.alike).kept hk).narrow hB, hsQ_w hW h.2.2.2.2⟩
theorem hsX.same {A : Nat → Prop} {sa sb : Nat} {s U : State} {H : Heap} (h : hsX A sa sb s H) (hv : s.vm = U.vm) : hsX A sa sb U H :=
  ⟨vk_R.same hv.symm h.1, vk_R.same hv.symm h.2.1, h.2.2.1.moved (by rw [hv]; exact Vm.Alike.refl _), h.2.2.2.1.moved (by rw [hv]; exact Vm.Alike.refl _), fun w hw => va_Nw.same (hsQ_t w hw) hv (h.2.2.2.2 w hw)⟩
def hsP (dC : Nat → ClassId) (dI : Nat → Nat → Nat) (G : ax_G) (sz : Nat) (σ : ax_S) (av : List Value) (sa sb : Nat) : Array Value → State → Prop :=
  va_Pc av (fun U => U.heap.size = sz ∧ va_P (dC, dI) vwCl (ax_w shC G σ) U.heap ∧ ax_K dC dI G (ax_A shC G sz) U U.heap ∧ ax_I shC G ∧ hsX (ax_A shC G sz) sa sb U U.heap)
theorem hsP_blind {dC : Nat → ClassId} {dI : Nat → Nat → Nat} {G : ax_G} {sz : Nat} {σ : ax_S} {av : List Value} {sa sb : Nat} : FrameBlind (hsP dC dI G sz σ av sa sb) := by
  intro a U g mk h
  obtain ⟨h1, h2, h3, h4, h5, h6⟩ := h
  exact ⟨h1, h2, h3, ax_K.same (U := U.calling g mk a) h4 rfl, h5, hsX.same (U := U.calling g mk a) h6 rfl⟩
set_option maxRecDepth 20000 in
theorem hs_good : ∀ w ∈ hhN.filter goodWord, w ∈ lw_tbl := by decide +kernel
set_option maxRecDepth 20000 in
theorem hs_ng : ∀ w ∈ hhN.filter (fun w => !goodWord w), w ∈ hsQ := by decide +kernel
set_option maxRecDepth 20000 in
theorem hs_ot : ∀ w ∈ Cond.classLink RX11 163 hsE :: Cond.initialized hsE :: hhN, vx_ot w = true := by decide +kernel
theorem hs_k : Cond.classLink RX11 163 hsE ∈ ax_U := ax_in 1084 (by decide +kernel) rfl
theorem hs_i : Cond.initialized hsE ∈ ax_U := ax_in 20 (by decide +kernel) rfl
set_option maxHeartbeats 4000000 in
set_option maxRecDepth 20000 in
/-- the class's house, where it throws -/
theorem hs_throw (l : Launch) (hl : l.stackTraces = false) (dC : Nat → ClassId) (dI : Nat → Nat → Nat) (G : ax_G) (sz : Nat) (σ : ax_S) (a b : Int32) (sa sb : Nat) (g : ¬ hsB σ a b) :
    vx_Met l yX11_house (ax_ws mX11_house) { frames := 61, cells := 1, slots := 6, locals := 3904 } (hsP dC dI G sz σ [.ref (G.1 0), .int a, .int b] sa sb) (va_Qi (fun (_ : Int32) (_ : Unit) => False) (fun _ _ => True) (ax_A shC G sz)) (vx_X (fun _ : Unit => True) (fun E _ t => E = hsE ∧ va_P (dC, dI) vwCl (ax_w shC G σ) t.heap) (ax_A shC G sz)) 1 6 (ax_A shC G sz) := by
  refine vx_ofW (cc := cX11_house) (maxL := 3) (ret := some .int) (by decide +kernel) rfl ?_
  intro p e s m args below meth c s₁ B hml htab hv
  obtain ⟨rfl, hsz, hP, hK, hI, hX⟩ := hv
  subst hsz
  have hx := B.exec
  have hb := B.bytes
  have hts0 := atoms_spec (ws := ax_ws mX11_house) B.pre
  have hts : ∀ w ∈ ax_U, w.before [Value.ref (G.1 0), .int a, .int b].toArray s = true := fun w h => hts0 w (List.mem_cons_of_mem _ h)
  have hown : s.vm.findClass RX11 = some m.cls := findClass_of_methodNamed B.named
  have hlocks := B.notSynchronized
  have hA : ∀ q, s.heap.size ≤ q → ax_A shC G s.heap.size q := fun q h => Or.inr h
  have hGA : ∀ i, i < shC.length → ax_A shC G s.heap.size (G.1 i) := fun i h => Or.inl ⟨i, h, rfl⟩
  have hS : va_S (ax_A shC G s.heap.size) s.heap s.heap [] := va_S.rf
  have hll := lv_entry ([.ref (G.1 0), .int a, .int b]) (n := 3) (Nat.le_of_ble_eq_true rfl)
  rw [lg_entry_eq]
  generalize (lg_sl ([.ref (G.1 0), .int a, .int b]) ++ List.replicate (3 - (lg_sl ([.ref (G.1 0), .int a, .int b])).length) Slot.unset).toArray = ls at hll ⊢
  have hll : lv_has ls 3 [(0, .ref (G.1 0)), (1, .int a), (2, .int b)] := hll
  have hat : ∀ w ∈ hhN, w.before [Value.ref (G.1 0), .int a, .int b].toArray s = true := vx_hat (fun w hw => hts w (List.mem_filter.mpr ⟨hs_good w hw, (List.mem_filter.mp hw).2⟩)) hs_ng (fun w hw => va_Nw.use (hsQ_t w hw) (hX.2.2.2.2 w hw))
  refine lv_aload_n hx hb dX11_house_0 rfl (lv_at hll 0 rfl) ?_
  refine lv_iload_n hx hb dX11_house_1 rfl (lv_at hll 1 rfl) ?_
  refine bx_callV (As := [ax_i a]) (b := 0) (rest := []) (d := 60) hx hb hml hown hts hK hA hI hGA (Nat.le_of_ble_eq_true rfl) (Nat.le_of_ble_eq_true rfl) ⟨Nat.zero_le _, Nat.zero_le _⟩ dX11_house_2 lk_X11_160 shC_0 rfl rfl rfl hP hS hll.1 (Nat.zero_le _) (f_X11_isHouse σ a (d := 60) (by omega)) (fun r u H1 locs1 hq hP1 hz hk hS1 => ?_)
  obtain ⟨hq1, hq2⟩ := hq
  subst hq1
  subst hq2
  have hxc : ∀ t : State, s.vm.Alike t.vm → H1.size ≤ t.heap.size → (∀ q : Nat, q < H1.size → t.heap[q]? = H1[q]?) → vx_X (fun _ : Unit => True) (fun E _ t => E = hsE ∧ va_P (dC, dI) vwCl (ax_w shC G u) t.heap) (ax_A shC G s.heap.size) hsE s t := fun t _ hz2 hk2 =>
    ⟨(), trivial, ⟨rfl, hP1.kept (fun k q hq => hk2 q.1 (vx_lt hP1 hq))⟩, ⟨Nat.le_trans hS1.1 hz2, fun q h1 h2 => (hk2 q (Nat.lt_of_lt_of_le h1 hS1.1)).trans (hS1.2.1 q h1 h2)⟩⟩
  by_cases g1 : (¬ a < 0) ∧ ¬ u.1 5 9 ≤ a
  · rw [if_pos g1]
    refine lv_if_ne (tgt := 18) hx hb dX11_house_5 (by decide) (fun _ => ?_) (fun z => absurd z (by decide))
    refine lv_iload_n hx hb dX11_house_18 rfl (lv_at hll 2 rfl) ?_
    refine lv_tableOut (tgt := 125) hx hb dX11_house_19 ?_ (by decide) ?_
    · by_cases gg : ¬ b < nI 0 ∧ ¬ nI 5 < b
      · obtain ⟨k, -, hk5, hkb⟩ := (in_R b 0 5).mp gg
        exact absurd ⟨g1, k, hk5, hkb⟩ g
      · by_cases g2 : b < nI 0
        · left; exact (Int32.lt_iff_toInt_lt).mp g2
        · right
          have g3 : nI 5 < b := Classical.not_not.mp (fun q => gg ⟨g2, q⟩)
          exact (Int32.lt_iff_toInt_lt).mp g3
    · exact hh_make (is := 198) (text := "no such thing of a house") hx hb hl hown (hts _ hs_k) (hts _ hs_i) hX.2.1 hat hs_ot hX.2.2.1 hX.2.2.2.1 hS1 (hll.1.trans hml.symm) dX11_house_125 dX11_house_128 dX11_house_129 dX11_house_131 (Nat.le_of_ble_eq_true rfl) (Nat.le_of_ble_eq_true rfl) (Nat.le_refl _) (Nat.le_refl _) (fun q ce H2 hce hcv hcl hz2 hk2 hS2 => vx_athrow hx hb dX11_house_134 (vx_out (fun x hx => (htab x hx).elim) hlocks hce hcv hcl (fun t ht hal => hxc t hal (by rw [ht]; exact hz2) (by rw [ht]; exact hk2)) hS2.2.2 (Nat.le_refl _) (Nat.le_refl _)))
  · rw [if_neg g1]
    refine lv_if_ne (tgt := 18) hx hb dX11_house_5 (by decide) (fun z => absurd rfl z) (fun _ => ?_)
    exact hh_make (is := 165) (text := "no such house") hx hb hl hown (hts _ hs_k) (hts _ hs_i) hX.1 hat hs_ot hX.2.2.1 hX.2.2.2.1 hS1 (hll.1.trans hml.symm) dX11_house_8 dX11_house_11 dX11_house_12 dX11_house_14 (Nat.le_of_ble_eq_true rfl) (Nat.le_of_ble_eq_true rfl) (Nat.le_refl _) (Nat.le_refl _) (fun q ce H2 hce hcv hcl hz2 hk2 hS2 => vx_athrow hx hb dX11_house_17 (vx_out (fun x hx => (htab x hx).elim) hlocks hce hcv hcl (fun t ht hal => hxc t hal (by rw [ht]; exact hz2) (by rw [ht]; exact hk2)) hS2.2.2 (Nat.le_refl _) (Nat.le_refl _)))
/-- words of one's own list -/
theorem ax_gi {ws : List Cond} (h : ∀ w ∈ ws, w ∈ ax_U) : GoodIn ax_U ws := goodIn_sub h (List.all_eq_true.mpr (fun w hw => List.all_eq_true.mp ax_Ug w (h w hw)))
def hlW : List Cond := .codeWith yL_house cL_house 5 (some .int) [(0, 10, 13, 13)] :: ax_U
theorem hl_in : Cond.codeWith yL_house cL_house 5 (some .int) [(0, 10, 13, 13)] ∈ ax_U := ax_in 1078 (by decide +kernel) rfl
theorem hl_c : Cond.classLink RL 13 hsE ∈ ax_U := ax_in 1079 (by decide +kernel) rfl
theorem hl_g : GoodIn ax_U (va_wsS RL 38 yL_house hlW) := by
  refine ax_gi (fun w hw => ?_)
  rcases List.mem_append.mp hw with h | h
  · simp only [List.mem_cons, List.not_mem_nil, or_false] at h
    rcases h with rfl | rfl | rfl
    · exact ax_in 1076 (by decide +kernel) rfl
    · exact ax_in 1077 (by decide +kernel) rfl
    · exact ax_in 0 (by decide +kernel) rfl
  · rcases List.mem_cons.mp h with rfl | h
    · exact hl_in
    · exact h
theorem hl_cw {R : Room} {s : State} {args : Array Value} (hts : ∀ w ∈ ax_U, w.before args s = true) {rm : Room} (hR : rm.frames + 1 ≤ R.frames ∧ 8 + (5 + 11) + rm.locals ≤ R.locals) : vx_CSW R s args RL 38 yL_house cL_house 5 (some .int) [(0, 10, 13, 13)] hlW rm rm.cells rm.slots 4 :=
  vx_cwSW (ws' := ax_U) 4 hts hl_g rfl rfl rfl (by decide +kernel) hR
theorem hl_m : ax_ml RL 7 mX11_house 2 := ⟨ax_in 1080 (by decide +kernel) rfl, cm_X11_house.1, cm_X11_house.2.1, cm_X11_house.2.2.1, cm_X11_house.2.2.2⟩
set_option maxHeartbeats 4000000 in
set_option maxRecDepth 20000 in
/-- the law's house, where the class throws: 1 -/
theorem hL_bad (l : Launch) (hl : l.stackTraces = false) (dC : Nat → ClassId) (dI : Nat → Nat → Nat) (G : ax_G) (sz : Nat) (σ : ax_S) (a b : Int32) (sa sb ob : Nat) (g : ¬ hsB σ a b) :
    Met l yL_house hlW { frames := 62, cells := 1, slots := 6, locals := 3968 } (hsP dC dI G sz σ [.ref (G.1 0), .int a, .int b, .ref ob] sa sb) (va_Qi (fun r (_ : Unit) => r = 1) (fun _ t => va_P (dC, dI) vwCl (ax_w shC G σ) t.heap) (ax_A shC G sz)) 1 6 (ax_A shC G sz) := by
  refine va_MetW (cc := cL_house) (maxL := 5) (ret := some .int) (hh := [(0, 10, 13, 13)]) (ws' := ax_U) (by decide +kernel) rfl ?_
  intro p e s m args below meth c s₁ B hml hv
  obtain ⟨rfl, hsz, hP, hK, hI, hX⟩ := hv
  subst hsz
  have hx := B.exec
  have hb := B.bytes
  have hr := B.returns
  have hts0 := atoms_spec (ws := hlW) B.pre
  have hts : ∀ w ∈ ax_U, w.before [Value.ref (G.1 0), .int a, .int b, .ref ob].toArray s = true := fun w h => hts0 w (List.mem_cons_of_mem _ h)
  have htb : c.exceptionTable.toList = tableOf [(0, 10, 13, 13)] := vx_table (x := yL_house) B (hts0 _ List.mem_cons_self)
  have hown : s.vm.findClass RL = some m.cls := findClass_of_methodNamed B.named
  have hlocks := B.notSynchronized
  have hS : va_S (ax_A shC G s.heap.size) s.heap s.heap [] := va_S.rf
  have hll := lv_entry ([.ref (G.1 0), .int a, .int b, .ref ob]) (n := 5) (Nat.le_of_ble_eq_true rfl)
  rw [lg_entry_eq]
  generalize (lg_sl ([.ref (G.1 0), .int a, .int b, .ref ob]) ++ List.replicate (5 - (lg_sl ([.ref (G.1 0), .int a, .int b, .ref ob])).length) Slot.unset).toArray = ls at hll ⊢
  have hll : lv_has ls 5 [(0, .ref (G.1 0)), (1, .int a), (2, .int b), (3, .ref ob)] := hll
  refine lv_aload_n hx hb dL_house_0 rfl (lv_at hll 3 rfl) ?_
  refine lv_iconst (v := 0) hx hb dL_house_1 (by decide) ?_
  refine lv_aload_n hx hb dL_house_2 rfl (lv_at hll 0 rfl) ?_
  refine lv_iload_n hx hb dL_house_3 rfl (lv_at hll 1 rfl) ?_
  refine lv_iload_n hx hb dL_house_4 rfl (lv_at hll 2 rfl) ?_
  have hrecv := va_recv hK.1 hP (ci := 11) (q0 := 0) rfl (ax_w_at (G := G) (σ := σ) shC_0)
  refine vx_calli (vx_runV (As := [.int a, .int b]) (rest := [.int 0, .ref ob]) (C := RX11) ⟨hx, hb, hml, hown, hts⟩ (hs_throw l hl dC dI G s.heap.size σ a b sa sb g) ⟨callB_of 2 hts (ax_gd hl_m.2.2.1) rfl rfl rfl (hts _ hl_m.2.1) (hts _ hl_m.1) hl_m.2.2.2.1 ⟨Nat.le_of_ble_eq_true rfl, Nat.le_of_ble_eq_true rfl⟩, hts _ ci_X11_house, hts _ ce_X11_house⟩ ⟨hsP_blind, hrecv, fun U hU hW => ⟨rfl, by rw [hU], by rw [hU]; exact hP, by rw [hU]; exact ax_K.to (sh := shC) hK hW (fun _ _ _ => rfl) (fun _ h => h), hI, by rw [hU]; exact hsX.to hX hW (fun _ _ _ => rfl) (fun _ h => h)⟩⟩ rfl rfl hll.1 rfl (lv_room (Nat.le_of_ble_eq_true rfl)) dL_house_5 ⟨Nat.le_refl _, Nat.le_refl _⟩) hS (fun q _ h => h) (fun q h => h) (fun q _ h => h) (fun E ce q9 u t H1 locs1 ht hal hpx hBX hz hk hS1 hce hcv hcl => ?_) (fun r u t H1 locs1 ht hal hpost => hpost.elim)
  obtain ⟨hE, hP1⟩ := hBX
  subst hE
  rw [ht] at hP1
  refine vx_catch (own := RL) (name := hsE) (E := hsE) hown [] ⟨0, 10, 13, 13⟩ [] (by rw [htb]; rfl) (fun z hz => nomatch hz) (by decide) (by decide) (hts _ hl_c) (va_Nw.use rfl (hX.2.2.2.2 _ hsQ_0)) hce hcv hcl ?_
  refine lv_astore (lv' := [(4, .ref q9), (0, .ref (G.1 0)), (1, .int a), (2, .int b), (3, .ref ob)]) hx hb dL_house_13 hll (by decide) rfl (fun ls' hl' => ?_)
  refine lv_iconst (v := 1) hx hb dL_house_15 (by decide) ?_
  refine W.widen (k := 1) (n := 6) (Nat.le_refl _) (Nat.le_refl _) ?_
  exact W.iret (v := 1) hx hb hr (fun t2 ht2 hW => ⟨⟨1, (), rfl, rfl, (by rw [ht2]; exact hP1 : va_P (dC, dI) vwCl (ax_w shC G σ) t2.heap)⟩, hS1.F ht2⟩) hS1.2.2 dL_house_16
/-- out[0] is stored: the other cells stay -/
theorem va_last1 {p : Program} {l : Launch} {e : Env} {R : Room} {s : State} {m : MethodId} {args : Array Value} {below : List Frame} {meth : Method} {c : Code} {H : Heap} {locs : List Loc} {cells slots : Nat} {Q : State → Prop} {cc : ByteArray} {D : va_G} {cl : List vw_C} {tys : List (ClassId × FieldType)} {A : Nat → Prop} {H0 : Heap} {a pc : Nat} {ls : Array Slot} {rest : List Value} (hexec : p.tables.exec = Jvm.exec) (hb : c.code = cc) (hK : va_K D cl tys s) {cA : ClassId} {n : Nat} {f : Nat → Int64} (hP : va_P D cl [(a, .inl (cA, n, .inr (.inl f)))] H) (hAa : A a) (hS : va_S A H0 H locs) (t0 : Nat) (ht : tys[t0]? = some (cA, .long)) {i : Int32} {x : Int64} (hin : vp_in i n) (hdg : decode cc pc = .ok (.lastore, 1))
    (kk : ∀ (H1 : Heap) (locs1 : List Loc), va_P D cl [(a, .inl (cA, n, .inr (.inl (vp_updL f i.toNatClampNeg x))))] H1 → H1.size = H.size → (∀ q : Nat, q ≠ a → H1[q]? = H[q]?) → va_S A H0 H1 locs1 → W p l e R s m args below meth c H1 locs1 cells slots Q (F0 m (pc + 1) ls rest)) : W p l e R s m args below meth c H locs cells slots Q (F0 m pc ls (.long x :: .int i :: .ref a :: rest)) := by
  have ha : ([(a, .inl (cA, n, .inr (.inl f)))] : va_W)[0]? = some (a, .inl (cA, n, .inr (.inl f))) := rfl
  have hD : va_D A ([(a, .inl (cA, n, .inr (.inl f)))] : va_W) := by
    refine ⟨fun i j p q hp hq _ => ?_, fun k q hq => ?_⟩
    · have h1 := (List.getElem?_eq_some_iff.mp hp).1
      have h2 := (List.getElem?_eq_some_iff.mp hq).1
      simp only [List.length_cons, List.length_nil] at h1 h2
      omega
    · rw [List.mem_singleton.mp (List.mem_of_getElem? hq)]
      exact hAa
  refine W.last hexec hb (hP 0 _ ha) ((hK.2 t0 _ ht).1 n (fun j => .long (f j))) (fun q => by cases q) (by show ¬ (i < 0 ∨ (arrV _ _ _).slots.size ≤ _); rw [arrV_size]; exact hin) rfl rfl hdg fun H1 e z oq => ?_
  refine kk H1 _ (hP.set hD ha ?_ oq) z oq (hS.put z oq hAa)
  show H1[a]? = some (vp_cell _ _)
  rw [e]
  rw [vp_cell_l, vp_cell_l, arrV_store]
  congr 2
  funext q
  by_cases hq : q = i.toNatClampNeg
  · subst hq
    simp [updV, vp_updL]
  · simp [updV, vp_updL, hq]
theorem vp_in01 : vp_in (0 : Int32) 1 := by unfold vp_in; decide
def wof (ob : Nat) (cJ : ClassId) (f : Nat → Int64) : va_W := [(ob, .inl (cJ, 1, .inr (.inl f)))]
def hoA (G : ax_G) (sz ob : Nat) : Nat → Prop := fun q => ax_A shC G sz q ∨ q = ob
def hoP (dC : Nat → ClassId) (dI : Nat → Nat → Nat) (G : ax_G) (sz : Nat) (σ : ax_S) (av : List Value) (ob : Nat) (cJ : ClassId) (f : Nat → Int64) : Array Value → State → Prop :=
  va_Pc av (fun U => U.heap.size = sz ∧ va_P (dC, dI) vwCl (ax_w shC G σ) U.heap ∧ ax_K dC dI G (hoA G sz ob) U U.heap ∧ ax_I shC G ∧ va_P (dC, dI) vwCl (wof ob cJ f) U.heap ∧ va_K (dC, dI) vwCl [(cJ, .long)] U ∧ ∀ i, i < shC.length → G.1 i ≠ ob)
theorem hoP_blind {dC : Nat → ClassId} {dI : Nat → Nat → Nat} {G : ax_G} {sz : Nat} {σ : ax_S} {av : List Value} {ob : Nat} {cJ : ClassId} {f : Nat → Int64} : FrameBlind (hoP dC dI G sz σ av ob cJ f) := by
  intro a U g mk h
  obtain ⟨h1, h2, h3, h4, h5, h6, h7, h8⟩ := h
  exact ⟨h1, h2, h3, ax_K.same (U := U.calling g mk a) h4 rfl, h5, h6, va_K.moved (u := U) (U := U.calling g mk a) (Vm.Alike.refl U.vm) h7, h8⟩
set_option maxHeartbeats 4000000 in
set_option maxRecDepth 20000 in
/-- the law's house, where the class answers v: 0, and out[0] is v -/
theorem hL_ok (l : Launch) (dC : Nat → ClassId) (dI : Nat → Nat → Nat) (G : ax_G) (sz : Nat) (σ : ax_S) (a b : Int32) (ob : Nat) (cJ : ClassId) (f : Nat → Int64) (v : Int32) (hM : ax_Ct shC 60 mX11_house [ax_r 0, ax_i a, ax_i b] (fun r u => r = some (ax_i v) ∧ u = σ) σ) :
    Met l yL_house hlW { frames := 62, cells := 1, slots := 6, locals := 3968 } (hoP dC dI G sz σ [.ref (G.1 0), .int a, .int b, .ref ob] ob cJ f) (va_Qi (fun r (_ : Unit) => r = 0) (fun _ t => va_P (dC, dI) vwCl (ax_w shC G σ) t.heap ∧ va_P (dC, dI) vwCl (wof ob cJ (vp_updL f 0 v.toInt64)) t.heap) (hoA G sz ob)) 1 6 (hoA G sz ob) := by
  refine va_MetW (cc := cL_house) (maxL := 5) (ret := some .int) (hh := [(0, 10, 13, 13)]) (ws' := ax_U) (by decide +kernel) rfl ?_
  intro p e s m args below meth c s₁ B hml hv
  obtain ⟨rfl, hsz, hP, hK, hI, hO, hKJ, hne⟩ := hv
  subst hsz
  have hx := B.exec
  have hb := B.bytes
  have hr := B.returns
  have hts0 := atoms_spec (ws := hlW) B.pre
  have hts : ∀ w ∈ ax_U, w.before [Value.ref (G.1 0), .int a, .int b, .ref ob].toArray s = true := fun w h => hts0 w (List.mem_cons_of_mem _ h)
  have hown : s.vm.findClass RL = some m.cls := findClass_of_methodNamed B.named
  have hlocks := B.notSynchronized
  have hA : ∀ q, s.heap.size ≤ q → hoA G s.heap.size ob q := fun q h => Or.inl (Or.inr h)
  have hGA : ∀ i, i < shC.length → hoA G s.heap.size ob (G.1 i) := fun i h => Or.inl (Or.inl ⟨i, h, rfl⟩)
  have hS : va_S (hoA G s.heap.size ob) s.heap s.heap [] := va_S.rf
  have hll := lv_entry ([.ref (G.1 0), .int a, .int b, .ref ob]) (n := 5) (Nat.le_of_ble_eq_true rfl)
  rw [lg_entry_eq]
  generalize (lg_sl ([.ref (G.1 0), .int a, .int b, .ref ob]) ++ List.replicate (5 - (lg_sl ([.ref (G.1 0), .int a, .int b, .ref ob])).length) Slot.unset).toArray = ls at hll ⊢
  have hll : lv_has ls 5 [(0, .ref (G.1 0)), (1, .int a), (2, .int b), (3, .ref ob)] := hll
  refine lv_aload_n hx hb dL_house_0 rfl (lv_at hll 3 rfl) ?_
  refine lv_iconst (v := 0) hx hb dL_house_1 (by decide) ?_
  refine lv_aload_n hx hb dL_house_2 rfl (lv_at hll 0 rfl) ?_
  refine lv_iload_n hx hb dL_house_3 rfl (lv_at hll 1 rfl) ?_
  refine lv_iload_n hx hb dL_house_4 rfl (lv_at hll 2 rfl) ?_
  refine bx_callV (As := [ax_i a, ax_i b]) (b := 0) (rest := [.int 0, .ref ob]) (d := 60) hx hb hml hown hts hK hA hI hGA (Nat.le_of_ble_eq_true rfl) (Nat.le_of_ble_eq_true rfl) ⟨Nat.zero_le _, Nat.zero_le _⟩ dL_house_5 (⟨hl_m, ci_X11_house, ce_X11_house⟩ : ax_vl RL 7 mX11_house 2) shC_0 rfl rfl rfl hP hS hll.1 (Nat.le_of_ble_eq_true rfl) hM (fun r u H1 locs1 hq hP1 hz hk hS1 => ?_)
  obtain ⟨hq1, hq2⟩ := hq
  subst hq1
  subst hq2
  have hne' : ∀ (k : Nat) (q : Nat × va_E), (wof ob cJ f)[k]? = some q → ∀ i, i < shC.length → G.1 i ≠ q.1 := fun k q hq i hi => by
    rw [List.mem_singleton.mp (List.mem_of_getElem? hq)]
    exact hne i hi
  have hO1 : va_P (dC, dI) vwCl (wof ob cJ f) H1 := bx_wo hO hne' hk
  refine lv_i2l (v := v.toInt64) hx hb dL_house_8 rfl ?_
  refine va_last1 hx hb hKJ hO1 (show hoA G s.heap.size ob ob from Or.inr rfl) hS1 0 rfl vp_in01 dL_house_9 (fun H2 locs2 hO2 hz2 hk2 hS2 => ?_)
  refine lv_goto (tgt := 17) hx hb dL_house_10 (by decide) ?_
  refine lv_iconst (v := 0) hx hb dL_house_17 (by decide) ?_
  refine W.widen (k := 1) (n := 6) (Nat.zero_le _) (Nat.zero_le _) ?_
  refine W.iret (v := 0) hx hb hr (fun t2 ht2 hW => ⟨⟨0, (), rfl, rfl, ?_, ?_⟩, hS2.F ht2⟩) hS2.2.2 dL_house_18
  · rw [ht2]
    refine hP1.kept (fun k q hq => hk2 q.1 (fun e => ?_))
    obtain ⟨h1, h2⟩ := ax_w_of hq
    exact hne k h1 (by rw [← h2, e])
  · rw [ht2]
    exact hO2
