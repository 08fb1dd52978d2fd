/-! ===== the law's own layer: both worlds, and cells beside them ===== -/
/-- what holds all through the law's frame: R's room is left for one contract -/
def bL (own : String) (cc : ByteArray) (nL : Nat) (dC : Nat → ClassId) (dI : Nat → Nat → Nat) (G G' : ax_G) (wo : va_W) (cells slots : Nat) (p : Program) (R : Room) (s : State) (m : MethodId) (args : Array Value) (c : Code) : Prop :=
  (p.tables.exec = Jvm.exec ∧ c.code = cc ∧ c.maxLocals = nL ∧ s.vm.findClass own = some m.cls ∧ (∀ w ∈ ax_U, w.before args s = true)) ∧
  (ax_K dC dI G (fun q => s.heap.size ≤ q) s s.heap ∧ ax_K dC dI G' (fun q => s.heap.size ≤ q) s s.heap ∧ ax_I shC G ∧ ax_I shM G') ∧
  ((∀ i, i < shC.length → s.heap.size ≤ G.1 i) ∧ (∀ i, i < shM.length → s.heap.size ≤ G'.1 i) ∧ (∀ i j, i < shC.length → j < shM.length → G.1 i ≠ G'.1 j) ∧
    ∀ (k : Nat) (q : Nat × va_E), wo[k]? = some q → (∀ i, i < shC.length → G.1 i ≠ q.1) ∧ ∀ i, i < shM.length → G'.1 i ≠ q.1) ∧
  (61 ≤ R.frames ∧ 64 * 61 ≤ R.locals ∧ cells ≤ R.cells ∧ slots ≤ R.slots)
/-- from here the law comes to Z -/
def bW (own : String) (cc : ByteArray) (nL : Nat) (dC : Nat → ClassId) (dI : Nat → Nat → Nat) (G G' : ax_G) (wo : va_W) (cells slots : Nat) (p : Program) (l : Launch) (e : Env) (R : Room) (s : State) (m : MethodId) (args : Array Value) (below : List Frame) (meth : Method) (c : Code) (Z : State → Prop) (pc : Nat) (lv : List (Nat × Value)) (st : List Value) (σ τ : ax_S) : Prop :=
  ∀ (H : Heap) (locs : List Loc) (ls : Array Slot), va_P (dC, dI) vwCl (ax_w shC G σ) H → va_P (dC, dI) vwCl (ax_w shM G' τ) H → va_P (dC, dI) vwCl wo H → va_S (fun q => s.heap.size ≤ q) s.heap H locs → lv_has ls nL lv → W p l e R s m args below meth c H locs cells slots Z (F0 m pc ls st)
section BL
variable {own : String} {cc : ByteArray} {nL : Nat} {dC : Nat → ClassId} {dI : Nat → Nat → Nat} {G G' : ax_G} {wo : va_W} {cells slots : Nat} {p : Program} {l : Launch} {e : Env} {R : Room} {s : State} {m : MethodId} {args : Array Value} {below : List Frame} {meth : Method} {c : Code} {Z : State → Prop} {pc : Nat} {lv : List (Nat × Value)} {σ τ : ax_S} {rest : List Value}
theorem bx_wo {sh : List ax_H} {G0 : ax_G} {H H1 : Heap} (hP : va_P (dC, dI) vwCl wo H) (hne : ∀ (k : Nat) (q : Nat × va_E), wo[k]? = some q → ∀ i, i < sh.length → G0.1 i ≠ q.1) (hk : ∀ q : Nat, q < H.size → ¬ ax_A sh G0 H.size q → H1[q]? = H[q]?) : va_P (dC, dI) vwCl wo H1 := by
  refine hP.kept (fun k q hq => ?_)
  have hlt := vx_lt hP hq
  refine hk q.1 hlt (fun z => ?_)
  rcases z with ⟨i, hi, h⟩ | z
  · exact hne k q hq i hi h.symm
  · omega
/-- a call of the class -/
theorem bW_C {M' : ax_M} {As : List ax_V} {idx n : Nat} {Q' : Option ax_V → ax_S → Prop} (C : bL own cc nL dC dI G G' wo cells slots p R s m args c) (hd : decode cc pc = .ok (.invokevirtual idx, 3)) (hv : ax_vl own idx M' n) {ci : Nat} {fs : List ax_F} {CC : String} {T : u_T} {N : Nat} (hb : shC[0]? = some (Sum.inl (ci, fs))) (hc : vwCl[ci]? = some (CC, T, N)) (hcl : M'.1.cls = CC) (hn : As.length = n) (hw : (rest.map fun v => v.category).sum ≤ 8)
    (hM : ax_Ct shC 60 M' (ax_r 0 :: As) Q' σ) (kk : ∀ r u, Q' r u → bW own cc nL dC dI G G' wo cells slots p l e R s m args below meth c Z (pc + 3) lv ((r.map (ax_v G.1)).toList ++ rest) u τ) :
    bW own cc nL dC dI G G' wo cells slots p l e R s m args below meth c Z pc lv ((As.map (ax_v G.1)).reverse ++ Value.ref (G.1 0) :: rest) σ τ := by
  obtain ⟨⟨c1, c2, c3, c4, c5⟩, ⟨k1, k2, k3, k4⟩, ⟨a1, a2, a3, a4⟩, r1, r2, r3⟩ := C
  intro H locs ls hC hMM hwo hS hl
  refine bx_callV c1 c2 c3 c4 c5 k1 (fun q h => h) k3 a1 r1 r2 r3 hd hv hb hc hcl hn hC hS hl.1 hw hM (fun r u H1 locs1 hq hP1 hsz hk hS1 => ?_)
  exact kk r u hq H1 locs1 ls hP1 (bx_stay hMM a3 hk) (bx_wo hwo (fun k q h => (a4 k q h).1) hk) hS1 hl
/-- a call of the reference -/
theorem bW_M {M' : ax_M} {As : List ax_V} {idx n : Nat} {Q' : Option ax_V → ax_S → Prop} (C : bL own cc nL dC dI G G' wo cells slots p R s m args c) (hd : decode cc pc = .ok (.invokevirtual idx, 3)) (hv : ax_vl own idx M' n) {ci : Nat} {fs : List ax_F} {CC : String} {T : u_T} {N : Nat} (hb : shM[0]? = some (Sum.inl (ci, fs))) (hc : vwCl[ci]? = some (CC, T, N)) (hcl : M'.1.cls = CC) (hn : As.length = n) (hw : (rest.map fun v => v.category).sum ≤ 8)
    (hM : ax_Ct shM 60 M' (ax_r 0 :: As) Q' τ) (kk : ∀ r u, Q' r u → bW own cc nL dC dI G G' wo cells slots p l e R s m args below meth c Z (pc + 3) lv ((r.map (ax_v G'.1)).toList ++ rest) σ u) :
    bW own cc nL dC dI G G' wo cells slots p l e R s m args below meth c Z pc lv ((As.map (ax_v G'.1)).reverse ++ Value.ref (G'.1 0) :: rest) σ τ := by
  obtain ⟨⟨c1, c2, c3, c4, c5⟩, ⟨k1, k2, k3, k4⟩, ⟨a1, a2, a3, a4⟩, r1, r2, r3⟩ := C
  intro H locs ls hC hMM hwo hS hl
  refine bx_callV c1 c2 c3 c4 c5 k2 (fun q h => h) k4 a2 r1 r2 r3 hd hv hb hc hcl hn hMM hS hl.1 hw hM (fun r u H1 locs1 hq hP1 hsz hk hS1 => ?_)
  exact kk r u hq H1 locs1 ls (bx_stay hC (fun i j hi hj => fun e => a3 j i hj hi e.symm) hk) hP1 (bx_wo hwo (fun k q h => (a4 k q h).2) hk) hS1 hl
/-- the next int of the script on the stack: aload_0, iload 4, iconst k, iadd, iaload -/
theorem bW_push {b L : Nat} {xs : Nat → Int32} {i k : Nat} (C : bL own cc nL dC dI G G' wo cells slots p R s m args c) (hX : va_X b L xs s s.heap) (hbl : b < s.heap.size) (h0 : lv[0]? = some (4, .int (nI i))) (h1 : lv[1]? = some (0, .ref b)) (hik : i + k < L) (hL : L < 100000)
    (d0 : decode cc pc = .ok (.aload_n 0, 1)) (d1 : decode cc (pc + 1) = .ok (.iload 4, 2)) (d2 : decode cc (pc + 3) = .ok (.iconst (k : Int), 1)) (d3 : decode cc (pc + 4) = .ok (.iadd, 1)) (d4 : decode cc (pc + 5) = .ok (.iaload, 1))
    (kk : bW own cc nL dC dI G G' wo cells slots p l e R s m args below meth c Z (pc + 6) lv (.int (xs (i + k)) :: rest) σ τ) : bW own cc nL dC dI G G' wo cells slots p l e R s m args below meth c Z pc lv rest σ τ := by
  obtain ⟨⟨c1, c2, c3, c4, c5⟩, -⟩ := C
  intro H locs ls hC hMM hwo hS hl
  refine lv_aload_n c1 c2 d0 rfl (lv_at hl 1 h1) ?_
  refine lv_iload c1 c2 d1 (lv_at hl 0 h0) ?_
  refine lv_iconst (v := nI k) c1 c2 d2 (by rw [← zI_nat]) ?_
  refine lv_iadd c1 c2 d3 ?_
  rw [n_add]
  refine va_sld c1 c2 hX hbl (Nat.not_le.mpr hbl) hS (n_in (i + k) L) d4 ?_
  rw [n_tn (i + k)]
  exact kk H locs ls hC hMM hwo hS hl
end BL
