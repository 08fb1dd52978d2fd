/-! ===== one case of the law's switch ===== -/
def pD (cc : ByteArray) : Nat → List Nat → Prop
  | _, [] => True
  | pc, k :: t => (decode cc pc = .ok (.aload_n 0, 1) ∧ decode cc (pc + 1) = .ok (.iload 4, 2) ∧ decode cc (pc + 3) = .ok (.iconst (k : Int), 1) ∧ decode cc (pc + 4) = .ok (.iadd, 1) ∧ decode cc (pc + 5) = .ok (.iaload, 1)) ∧ pD cc (pc + 6) t
section BP
variable {own : String} {cc : ByteArray} {nL : Nat} {dC : Nat → ClassId} {dI : Nat → Nat → Nat} {G G' : ax_G} {wo : va_W} {cells slots : Nat} {p : Program} {l : Launch} {e : Env} {R : Room} {s : State} {m : MethodId} {args : Array Value} {below : List Frame} {meth : Method} {c : Code} {Z : State → Prop} {lv : List (Nat × Value)} {σ τ : ax_S}
theorem bW_pushes {b L : Nat} {xs : Nat → Int32} {i : Nat} (C : bL own cc nL dC dI G G' wo cells slots p R s m args c) (hX : va_X b L xs s s.heap) (hbl : b < s.heap.size) (h0 : lv[0]? = some (4, .int (nI i))) (h1 : lv[1]? = some (0, .ref b)) (hL : L < 100000) : ∀ (ks : List Nat) (pc : Nat) (rest : List Value), (∀ k ∈ ks, i + k < L) → pD cc pc ks →
    bW own cc nL dC dI G G' wo cells slots p l e R s m args below meth c Z (pc + 6 * ks.length) lv ((ks.map (fun k => Value.int (xs (i + k)))).reverse ++ rest) σ τ → bW own cc nL dC dI G G' wo cells slots p l e R s m args below meth c Z pc lv rest σ τ
  | [], pc, rest, _, _, kk => kk
  | k :: t, pc, rest, hk, hd, kk => by
    obtain ⟨⟨d0, d1, d2, d3, d4⟩, hd'⟩ := hd
    refine bW_push C hX hbl h0 h1 (hk k List.mem_cons_self) hL d0 d1 d2 d3 d4 ?_
    refine bW_pushes C hX hbl h0 h1 hL t (pc + 6) _ (fun q hq => hk q (List.mem_cons_of_mem _ hq)) hd' ?_
    rw [List.length_cons, show pc + 6 * (t.length + 1) = pc + 6 + 6 * t.length by omega, List.map_cons, List.reverse_cons, List.append_assoc] at kk
    exact kk
theorem bW_aload {a : Nat} {pc q : Nat} {k : Fin 4} {rest : List Value} {place : Nat} (C : bL own cc nL dC dI G G' wo cells slots p R s m args c) (hd : decode cc pc = .ok (.aload_n k, 1)) (hl : lv[place]? = some ((k : Nat), .ref a)) (hq : pc + 1 = q)
    (kk : bW own cc nL dC dI G G' wo cells slots p l e R s m args below meth c Z q lv (.ref a :: rest) σ τ) : bW own cc nL dC dI G G' wo cells slots p l e R s m args below meth c Z pc lv rest σ τ := by
  obtain ⟨⟨c1, c2, c3, c4, c5⟩, -⟩ := C
  subst hq
  intro H locs ls hC hMM hwo hS hls
  exact lv_aload_n c1 c2 hd rfl (lv_at hls place hl) (kk H locs ls hC hMM hwo hS hls)
/-- both called with the same ints of the script: they answer alike, and the law goes on -/
theorem bW_case {b L : Nat} {xs : Nat → Int32} {i j : Nat} {MC MM : ax_M} {i1 i2 pc tgt : Nat} {off : Int} (ks : List Nat) (C : bL own cc nL dC dI G G' wo cells slots p R s m args c) (hX : va_X b L xs s s.heap) (hbl : b < s.heap.size)
    (h0 : lv[0]? = some (4, .int (nI i))) (h1 : lv[1]? = some (0, .ref b)) (h2 : lv[2]? = some (1, .ref (G.1 0))) (h3 : lv[3]? = some (2, .ref (G'.1 0))) (hL : L < 100000) (hks : ∀ k ∈ ks, i + k < L)
    {ci ci' : Nat} {fs fs' : List ax_F} {CC CC' : String} {T T' : u_T} {N N' : Nat} (hb : shC[0]? = some (Sum.inl (ci, fs))) (hc : vwCl[ci]? = some (CC, T, N)) (hb' : shM[0]? = some (Sum.inl (ci', fs'))) (hc' : vwCl[ci']? = some (CC', T', N')) (hcl : MC.1.cls = CC) (hcl' : MM.1.cls = CC')
    (d0 : decode cc pc = .ok (.aload_n 1, 1)) (dp : pD cc (pc + 1) ks) (d1 : decode cc (pc + 1 + 6 * ks.length) = .ok (.invokevirtual i1, 3)) (d2 : decode cc (pc + 1 + 6 * ks.length + 3) = .ok (.aload_n 2, 1)) (dp' : pD cc (pc + 1 + 6 * ks.length + 3 + 1) ks) (d3 : decode cc (pc + 1 + 6 * ks.length + 3 + 1 + 6 * ks.length) = .ok (.invokevirtual i2, 3)) (d4 : decode cc (pc + 1 + 6 * ks.length + 3 + 1 + 6 * ks.length + 3) = .ok (.if_icmp .eq off, 3)) (ht : ((pc + 1 + 6 * ks.length + 3 + 1 + 6 * ks.length + 3 : Nat) : Int) + off = (tgt : Int))
    (v1 : ax_vl own i1 MC ks.length) (v2 : ax_vl own i2 MM ks.length) (g : good j MC MM (ks.map (fun k => ax_i (xs (i + k)))) σ τ)
    (kk : ∀ u w, RR (j + 1) u w → bW own cc nL dC dI G G' wo cells slots p l e R s m args below meth c Z tgt lv [] u w) : bW own cc nL dC dI G G' wo cells slots p l e R s m args below meth c Z pc lv [] σ τ := by
  obtain ⟨v, PC, PM, g1, g2, g3⟩ := g
  have em : ∀ ad : Nat → Nat, (ks.map (fun k => ax_i (xs (i + k)))).map (ax_v ad) = ks.map (fun k => Value.int (xs (i + k))) := fun ad => by rw [List.map_map]; rfl
  refine bW_aload C d0 h2 rfl ?_
  refine bW_pushes C hX hbl h0 h1 hL ks (pc + 1) _ hks dp ?_
  rw [← em G.1]
  refine bW_C C d1 v1 hb hc hcl (by rw [List.length_map]) (by exact Nat.zero_le _) g1 (fun r u hu => ?_)
  obtain ⟨rfl, hu⟩ := hu
  refine bW_aload C d2 h3 rfl ?_
  refine bW_pushes C hX hbl h0 h1 hL ks _ _ hks dp' ?_
  rw [← em G'.1]
  refine bW_M C d3 v2 hb' hc' hcl' (by rw [List.length_map]) (by show 1 ≤ 8; omega) g2 (fun r w hw => ?_)
  obtain ⟨rfl, hw⟩ := hw
  intro H locs ls hC hMM hwo hS hls
  exact lv_icmp_eq C.1.1 C.1.2.1 d4 ht (fun _ => kk u w (g3 u w hu hw) H locs ls hC hMM hwo hS hls) (fun z => absurd rfl z)
end BP
