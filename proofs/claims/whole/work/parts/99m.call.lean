/-! ===== a call out of the law's own frame: one world of two ===== -/
theorem bx_callV {sh : List ax_H} {d : Nat} {M' : ax_M} {As : List ax_V} {b idx n ci pc : Nat} {fs : List ax_F} {CC : String} {T : u_T} {N : Nat} {Q' : Option ax_V → ax_S → Prop} {σ : ax_S} {cc : ByteArray} {nL : Nat} {own : String} {cells slots : Nat} {Z : State → Prop}
    {l : Launch} {dC : Nat → ClassId} {dI : Nat → Nat → Nat} {G : ax_G} {A : Nat → Prop} {p : Program} {e : Env} {R : Room} {s : State} {m : MethodId} {args : Array Value} {below : List Frame} {meth : Method} {c : Code}
    (hx : p.tables.exec = Jvm.exec) (hcode : c.code = cc) (hml : c.maxLocals = nL) (hown : s.vm.findClass own = some m.cls) (hts : ∀ w ∈ ax_U, w.before args s = true) (hK : ax_K dC dI G A s s.heap) (hA : ∀ q, s.heap.size ≤ q → A q) (hI : ax_I sh G) (hGA : ∀ i, i < sh.length → A (G.1 i)) (hfr : d + 1 ≤ R.frames) (hlo : 64 * (d + 1) ≤ R.locals) (hcs : cells ≤ R.cells ∧ slots ≤ R.slots)
    (hd : decode cc pc = .ok (.invokevirtual idx, 3)) (hv : ax_vl own idx M' n) (hb : sh[b]? = some (Sum.inl (ci, fs))) (hc : vwCl[ci]? = some (CC, T, N)) (hcl : M'.1.cls = CC) (hn : As.length = n)
    {H : Heap} {locs : List Loc} {ls : Array Slot} (hP : va_P (dC, dI) vwCl (ax_w sh G σ) H) (hS : va_S A s.heap H locs) (hls : ls.size = nL) {rest : List Value} (hw : (rest.map fun v => v.category).sum ≤ 8)
    (hM : ax_Ct sh d M' (ax_r b :: As) Q' σ)
    (kk : ∀ r u H1 locs1, Q' r u → va_P (dC, dI) vwCl (ax_w sh G u) H1 → H.size ≤ H1.size → (∀ q : Nat, q < H.size → ¬ ax_A sh G H.size q → H1[q]? = H[q]?) → va_S A s.heap H1 locs1 → W p l e R s m args below meth c H1 locs1 cells slots Z (F0 m (pc + 3) ls ((r.map (ax_v G.1)).toList ++ rest))) :
    W p l e R s m args below meth c H locs cells slots Z (F0 m pc ls ((As.map (ax_v G.1)).reverse ++ Value.ref (G.1 b) :: rest)) := by
  have hAA : ∀ q, ax_A sh G H.size q → A q := fun q h => by
    rcases h with ⟨k, h1, rfl⟩ | h
    · exact hGA k h1
    · exact hA q (Nat.le_trans hS.1 h)
  have hrecv := va_recv hK.1 hP (ci := ci) (q0 := b) hc (ax_w_at (G := G) (σ := σ) hb)
  have hpre : ∀ U : State, U.heap = H → s.WarmedH U.vm → ax_Pc sh dC dI G H.size (ax_r b :: As) σ ((ax_r b :: As).map (ax_v G.1)).toArray U := fun U hU hW =>
    ⟨rfl, by rw [hU], by rw [hU]; exact hP, by rw [hU]; exact ax_K.to (sh := sh) hK hW (fun a h1 h2 => hS.2.1 a h1 h2) hAA, hI⟩
  have hr : va_Run p l e R s m args below meth c H locs cells slots 0 0 (F0 m pc ls ((As.map (ax_v G.1)).reverse ++ Value.ref (G.1 b) :: rest)) rest (ax_Q sh dC dI G (ax_A sh G H.size) Q' (Value.ref (G.1 b) :: As.map (ax_v G.1)).toArray) (ax_A sh G H.size) :=
    va_runV (As := As.map (ax_v G.1)) (C := M'.1.cls) ⟨hx, hcode, hml, hown, hts⟩ (hM d (Nat.le_refl d) l dC dI G H.size) ⟨ax_callB hts hv.1 hfr hlo, hts _ hv.2.1, hts _ hv.2.2⟩ ⟨ax_blind, by rw [hcl]; exact hrecv, hpre⟩ rfl (by simpa using hn) hls rfl (lv_room hw) hd hcs
  intro T0 hT X
  obtain ⟨v, st₀, t, T', L, h0, X', hL, e1, e2, ⟨⟨r, u, hv', hp, hb'⟩, hz, hk⟩, stp⟩ := hr T0 hT X
  cases hv'
  rw [h0] at hz hk
  obtain ⟨t2, a1, b1⟩ := kk r u T'.heap (locs ++ L) hp (by rw [e1]; exact hb') (by rw [e1]; exact hz) (fun q h1 h2 => by rw [e1]; exact hk q h1 h2) ⟨Nat.le_trans hS.1 (by rw [e1]; exact hz), fun q h1 h2 => by rw [e1, hk q (Nat.lt_of_lt_of_le h1 hS.1) (fun z => h2 (hAA q z))]; exact hS.2.1 q h1 h2, fun q hq => by
      rcases List.mem_append.mp hq with h | h
      · exact hS.2.2 q h
      · exact hAA _ (hL q h)⟩ T' rfl X'
  exact ⟨t2, stp t2 a1, b1⟩
/-- the other world stays -/
theorem bx_stay {sh sh' : List ax_H} {dC : Nat → ClassId} {dI : Nat → Nat → Nat} {G G' : ax_G} {τ : ax_S} {H H1 : Heap} (hP : va_P (dC, dI) vwCl (ax_w sh' G' τ) H) (hne : ∀ i j, i < sh.length → j < sh'.length → G.1 i ≠ G'.1 j) (hk : ∀ q : Nat, q < H.size → ¬ ax_A sh G H.size q → H1[q]? = H[q]?) : va_P (dC, dI) vwCl (ax_w sh' G' τ) H1 := by
  refine hP.kept (fun k q hq => ?_)
  have hlt := vx_lt hP hq
  obtain ⟨h1, h2⟩ := ax_w_of hq
  refine hk q.1 hlt (fun z => ?_)
  rcases z with ⟨i, hi, e⟩ | z
  · exact hne i k hi h1 (by rw [← e, h2])
  · omega
