section AZ
variable {sh : List ax_H} {d : Nat} {M : ax_M} {Q : Option ax_V → ax_S → Prop} {pc q : Nat} {lv : List (Option ax_V)} {st : List ax_V} {σ : ax_S}
theorem ax_callVfi {M' : ax_M} {As : List ax_V} {b idx n ci : Nat} {fs : List ax_F} {CC : String} {T : u_T} {N : Nat} {st0 : List ax_V} {σ2 : ax_S} {x : Int32} (hd : decode M.2.1 pc = .ok (.invokevirtual idx, 3)) (hq : pc + 3 = q) (hv : ax_vl M.1.cls idx M' n) (hb : sh[b]? = some (Sum.inl (ci, fs))) (hc : vwCl[ci]? = some (CC, T, N)) (hcl : M'.1.cls = CC) (hn : As.length = n) (hst : st0 = As.reverse ++ ax_r b :: st) (hw : (st.map fun v => (ax_v (fun _ => 0) v).category).sum ≤ 8)
    (hM : ax_Ct sh d M' (ax_r b :: As) (fun r u => r = some (ax_i x) ∧ u = σ2) σ) (kk : ax_W sh (d + 1) M Q q lv (ax_i x :: st) σ2) : ax_W sh (d + 1) M Q pc lv st0 σ := by
  refine ax_callV hd hq hv hb hc hcl hn hst hw hM (fun r u h => ?_)
  obtain ⟨rfl, rfl⟩ := h
  exact kk
theorem ax_callVci {M' : ax_M} {As : List ax_V} {b idx n ci : Nat} {fs : List ax_F} {CC : String} {T : u_T} {N : Nat} {st0 : List ax_V} (hd : decode M.2.1 pc = .ok (.invokevirtual idx, 3)) (hq : pc + 3 = q) (hv : ax_vl M.1.cls idx M' n) (hb : sh[b]? = some (Sum.inl (ci, fs))) (hc : vwCl[ci]? = some (CC, T, N)) (hcl : M'.1.cls = CC) (hn : As.length = n) (hst : st0 = As.reverse ++ ax_r b :: st) (hw : (st.map fun v => (ax_v (fun _ => 0) v).category).sum ≤ 8)
    (hM : ax_Ct sh d M' (ax_r b :: As) (fun r u => ∃ x : Int32, r = some (ax_i x) ∧ ax_W sh (d + 1) M Q q lv (ax_i x :: st) u) σ) : ax_W sh (d + 1) M Q pc lv st0 σ := by
  refine ax_callV hd hq hv hb hc hcl hn hst hw hM (fun r u h => ?_)
  obtain ⟨x, rfl, h⟩ := h
  exact h
theorem ax_callVfl {M' : ax_M} {As : List ax_V} {b idx n ci : Nat} {fs : List ax_F} {CC : String} {T : u_T} {N : Nat} {st0 : List ax_V} {σ2 : ax_S} {x : Int64} (hd : decode M.2.1 pc = .ok (.invokevirtual idx, 3)) (hq : pc + 3 = q) (hv : ax_vl M.1.cls idx M' n) (hb : sh[b]? = some (Sum.inl (ci, fs))) (hc : vwCl[ci]? = some (CC, T, N)) (hcl : M'.1.cls = CC) (hn : As.length = n) (hst : st0 = As.reverse ++ ax_r b :: st) (hw : (st.map fun v => (ax_v (fun _ => 0) v).category).sum ≤ 8)
    (hM : ax_Ct sh d M' (ax_r b :: As) (fun r u => r = some (ax_l x) ∧ u = σ2) σ) (kk : ax_W sh (d + 1) M Q q lv (ax_l x :: st) σ2) : ax_W sh (d + 1) M Q pc lv st0 σ := by
  refine ax_callV hd hq hv hb hc hcl hn hst hw hM (fun r u h => ?_)
  obtain ⟨rfl, rfl⟩ := h
  exact kk
theorem ax_callVcl {M' : ax_M} {As : List ax_V} {b idx n ci : Nat} {fs : List ax_F} {CC : String} {T : u_T} {N : Nat} {st0 : List ax_V} (hd : decode M.2.1 pc = .ok (.invokevirtual idx, 3)) (hq : pc + 3 = q) (hv : ax_vl M.1.cls idx M' n) (hb : sh[b]? = some (Sum.inl (ci, fs))) (hc : vwCl[ci]? = some (CC, T, N)) (hcl : M'.1.cls = CC) (hn : As.length = n) (hst : st0 = As.reverse ++ ax_r b :: st) (hw : (st.map fun v => (ax_v (fun _ => 0) v).category).sum ≤ 8)
    (hM : ax_Ct sh d M' (ax_r b :: As) (fun r u => ∃ x : Int64, r = some (ax_l x) ∧ ax_W sh (d + 1) M Q q lv (ax_l x :: st) u) σ) : ax_W sh (d + 1) M Q pc lv st0 σ := by
  refine ax_callV hd hq hv hb hc hcl hn hst hw hM (fun r u h => ?_)
  obtain ⟨x, rfl, h⟩ := h
  exact h
theorem ax_callVfv {M' : ax_M} {As : List ax_V} {b idx n ci : Nat} {fs : List ax_F} {CC : String} {T : u_T} {N : Nat} {st0 : List ax_V} {σ2 : ax_S}  (hd : decode M.2.1 pc = .ok (.invokevirtual idx, 3)) (hq : pc + 3 = q) (hv : ax_vl M.1.cls idx M' n) (hb : sh[b]? = some (Sum.inl (ci, fs))) (hc : vwCl[ci]? = some (CC, T, N)) (hcl : M'.1.cls = CC) (hn : As.length = n) (hst : st0 = As.reverse ++ ax_r b :: st) (hw : (st.map fun v => (ax_v (fun _ => 0) v).category).sum ≤ 8)
    (hM : ax_Ct sh d M' (ax_r b :: As) (fun r u => r = none ∧ u = σ2) σ) (kk : ax_W sh (d + 1) M Q q lv (st) σ2) : ax_W sh (d + 1) M Q pc lv st0 σ := by
  refine ax_callV hd hq hv hb hc hcl hn hst hw hM (fun r u h => ?_)
  obtain ⟨rfl, rfl⟩ := h
  exact kk
theorem ax_callVcv {M' : ax_M} {As : List ax_V} {b idx n ci : Nat} {fs : List ax_F} {CC : String} {T : u_T} {N : Nat} {st0 : List ax_V} (hd : decode M.2.1 pc = .ok (.invokevirtual idx, 3)) (hq : pc + 3 = q) (hv : ax_vl M.1.cls idx M' n) (hb : sh[b]? = some (Sum.inl (ci, fs))) (hc : vwCl[ci]? = some (CC, T, N)) (hcl : M'.1.cls = CC) (hn : As.length = n) (hst : st0 = As.reverse ++ ax_r b :: st) (hw : (st.map fun v => (ax_v (fun _ => 0) v).category).sum ≤ 8)
    (hM : ax_Ct sh d M' (ax_r b :: As) (fun r u => r = none ∧ ax_W sh (d + 1) M Q q lv st u) σ) : ax_W sh (d + 1) M Q pc lv st0 σ := by
  refine ax_callV hd hq hv hb hc hcl hn hst hw hM (fun r u h => ?_)
  obtain ⟨rfl, h⟩ := h
  exact h
theorem ax_callSfi {M' : ax_M} {As : List ax_V} {idx n : Nat} {st0 : List ax_V} {σ2 : ax_S} {x : Int32} (hd : decode M.2.1 pc = .ok (.invokestatic idx, 3)) (hq : pc + 3 = q) (hv : ax_sl M.1.cls idx M' n) (hn : As.length = n) (hst : st0 = As.reverse ++ st) (hw : (st.map fun v => (ax_v (fun _ => 0) v).category).sum ≤ 8)
    (hM : ax_Ct sh d M' (As) (fun r u => r = some (ax_i x) ∧ u = σ2) σ) (kk : ax_W sh (d + 1) M Q q lv (ax_i x :: st) σ2) : ax_W sh (d + 1) M Q pc lv st0 σ := by
  refine ax_callS hd hq hv hn hst hw hM (fun r u h => ?_)
  obtain ⟨rfl, rfl⟩ := h
  exact kk
theorem ax_callSci {M' : ax_M} {As : List ax_V} {idx n : Nat} {st0 : List ax_V} (hd : decode M.2.1 pc = .ok (.invokestatic idx, 3)) (hq : pc + 3 = q) (hv : ax_sl M.1.cls idx M' n) (hn : As.length = n) (hst : st0 = As.reverse ++ st) (hw : (st.map fun v => (ax_v (fun _ => 0) v).category).sum ≤ 8)
    (hM : ax_Ct sh d M' (As) (fun r u => ∃ x : Int32, r = some (ax_i x) ∧ ax_W sh (d + 1) M Q q lv (ax_i x :: st) u) σ) : ax_W sh (d + 1) M Q pc lv st0 σ := by
  refine ax_callS hd hq hv hn hst hw hM (fun r u h => ?_)
  obtain ⟨x, rfl, h⟩ := h
  exact h
theorem ax_callSfl {M' : ax_M} {As : List ax_V} {idx n : Nat} {st0 : List ax_V} {σ2 : ax_S} {x : Int64} (hd : decode M.2.1 pc = .ok (.invokestatic idx, 3)) (hq : pc + 3 = q) (hv : ax_sl M.1.cls idx M' n) (hn : As.length = n) (hst : st0 = As.reverse ++ st) (hw : (st.map fun v => (ax_v (fun _ => 0) v).category).sum ≤ 8)
    (hM : ax_Ct sh d M' (As) (fun r u => r = some (ax_l x) ∧ u = σ2) σ) (kk : ax_W sh (d + 1) M Q q lv (ax_l x :: st) σ2) : ax_W sh (d + 1) M Q pc lv st0 σ := by
  refine ax_callS hd hq hv hn hst hw hM (fun r u h => ?_)
  obtain ⟨rfl, rfl⟩ := h
  exact kk
theorem ax_callScl {M' : ax_M} {As : List ax_V} {idx n : Nat} {st0 : List ax_V} (hd : decode M.2.1 pc = .ok (.invokestatic idx, 3)) (hq : pc + 3 = q) (hv : ax_sl M.1.cls idx M' n) (hn : As.length = n) (hst : st0 = As.reverse ++ st) (hw : (st.map fun v => (ax_v (fun _ => 0) v).category).sum ≤ 8)
    (hM : ax_Ct sh d M' (As) (fun r u => ∃ x : Int64, r = some (ax_l x) ∧ ax_W sh (d + 1) M Q q lv (ax_l x :: st) u) σ) : ax_W sh (d + 1) M Q pc lv st0 σ := by
  refine ax_callS hd hq hv hn hst hw hM (fun r u h => ?_)
  obtain ⟨x, rfl, h⟩ := h
  exact h
theorem ax_callSfv {M' : ax_M} {As : List ax_V} {idx n : Nat} {st0 : List ax_V} {σ2 : ax_S}  (hd : decode M.2.1 pc = .ok (.invokestatic idx, 3)) (hq : pc + 3 = q) (hv : ax_sl M.1.cls idx M' n) (hn : As.length = n) (hst : st0 = As.reverse ++ st) (hw : (st.map fun v => (ax_v (fun _ => 0) v).category).sum ≤ 8)
    (hM : ax_Ct sh d M' (As) (fun r u => r = none ∧ u = σ2) σ) (kk : ax_W sh (d + 1) M Q q lv (st) σ2) : ax_W sh (d + 1) M Q pc lv st0 σ := by
  refine ax_callS hd hq hv hn hst hw hM (fun r u h => ?_)
  obtain ⟨rfl, rfl⟩ := h
  exact kk
theorem ax_callScv {M' : ax_M} {As : List ax_V} {idx n : Nat} {st0 : List ax_V} (hd : decode M.2.1 pc = .ok (.invokestatic idx, 3)) (hq : pc + 3 = q) (hv : ax_sl M.1.cls idx M' n) (hn : As.length = n) (hst : st0 = As.reverse ++ st) (hw : (st.map fun v => (ax_v (fun _ => 0) v).category).sum ≤ 8)
    (hM : ax_Ct sh d M' (As) (fun r u => r = none ∧ ax_W sh (d + 1) M Q q lv st u) σ) : ax_W sh (d + 1) M Q pc lv st0 σ := by
  refine ax_callS hd hq hv hn hst hw hM (fun r u h => ?_)
  obtain ⟨rfl, h⟩ := h
  exact h
theorem ax_callNfi {M' : ax_M} {As : List ax_V} {idx n : Nat} {st0 : List ax_V} {σ2 : ax_S} {x : Int32} (hd : decode M.2.1 pc = .ok (.invokestatic idx, 3)) (hq : pc + 3 = q) (hv : ax_nlk M.1.cls idx M' n) (hn : As.length = n) (hst : st0 = As.reverse ++ st) (hw : (st.map fun v => (ax_v (fun _ => 0) v).category).sum ≤ 8)
    (hM : ax_Ct sh d M' (As) (fun r u => r = some (ax_i x) ∧ u = σ2) σ) (kk : ax_W sh (d + 1) M Q q lv (ax_i x :: st) σ2) : ax_W sh (d + 1) M Q pc lv st0 σ := by
  refine ax_callN hd hq hv hn hst hw hM (fun r u h => ?_)
  obtain ⟨rfl, rfl⟩ := h
  exact kk
theorem ax_callNci {M' : ax_M} {As : List ax_V} {idx n : Nat} {st0 : List ax_V} (hd : decode M.2.1 pc = .ok (.invokestatic idx, 3)) (hq : pc + 3 = q) (hv : ax_nlk M.1.cls idx M' n) (hn : As.length = n) (hst : st0 = As.reverse ++ st) (hw : (st.map fun v => (ax_v (fun _ => 0) v).category).sum ≤ 8)
    (hM : ax_Ct sh d M' (As) (fun r u => ∃ x : Int32, r = some (ax_i x) ∧ ax_W sh (d + 1) M Q q lv (ax_i x :: st) u) σ) : ax_W sh (d + 1) M Q pc lv st0 σ := by
  refine ax_callN hd hq hv hn hst hw hM (fun r u h => ?_)
  obtain ⟨x, rfl, h⟩ := h
  exact h
theorem ax_callNfl {M' : ax_M} {As : List ax_V} {idx n : Nat} {st0 : List ax_V} {σ2 : ax_S} {x : Int64} (hd : decode M.2.1 pc = .ok (.invokestatic idx, 3)) (hq : pc + 3 = q) (hv : ax_nlk M.1.cls idx M' n) (hn : As.length = n) (hst : st0 = As.reverse ++ st) (hw : (st.map fun v => (ax_v (fun _ => 0) v).category).sum ≤ 8)
    (hM : ax_Ct sh d M' (As) (fun r u => r = some (ax_l x) ∧ u = σ2) σ) (kk : ax_W sh (d + 1) M Q q lv (ax_l x :: st) σ2) : ax_W sh (d + 1) M Q pc lv st0 σ := by
  refine ax_callN hd hq hv hn hst hw hM (fun r u h => ?_)
  obtain ⟨rfl, rfl⟩ := h
  exact kk
theorem ax_callNcl {M' : ax_M} {As : List ax_V} {idx n : Nat} {st0 : List ax_V} (hd : decode M.2.1 pc = .ok (.invokestatic idx, 3)) (hq : pc + 3 = q) (hv : ax_nlk M.1.cls idx M' n) (hn : As.length = n) (hst : st0 = As.reverse ++ st) (hw : (st.map fun v => (ax_v (fun _ => 0) v).category).sum ≤ 8)
    (hM : ax_Ct sh d M' (As) (fun r u => ∃ x : Int64, r = some (ax_l x) ∧ ax_W sh (d + 1) M Q q lv (ax_l x :: st) u) σ) : ax_W sh (d + 1) M Q pc lv st0 σ := by
  refine ax_callN hd hq hv hn hst hw hM (fun r u h => ?_)
  obtain ⟨x, rfl, h⟩ := h
  exact h
theorem ax_callNfv {M' : ax_M} {As : List ax_V} {idx n : Nat} {st0 : List ax_V} {σ2 : ax_S}  (hd : decode M.2.1 pc = .ok (.invokestatic idx, 3)) (hq : pc + 3 = q) (hv : ax_nlk M.1.cls idx M' n) (hn : As.length = n) (hst : st0 = As.reverse ++ st) (hw : (st.map fun v => (ax_v (fun _ => 0) v).category).sum ≤ 8)
    (hM : ax_Ct sh d M' (As) (fun r u => r = none ∧ u = σ2) σ) (kk : ax_W sh (d + 1) M Q q lv (st) σ2) : ax_W sh (d + 1) M Q pc lv st0 σ := by
  refine ax_callN hd hq hv hn hst hw hM (fun r u h => ?_)
  obtain ⟨rfl, rfl⟩ := h
  exact kk
theorem ax_callNcv {M' : ax_M} {As : List ax_V} {idx n : Nat} {st0 : List ax_V} (hd : decode M.2.1 pc = .ok (.invokestatic idx, 3)) (hq : pc + 3 = q) (hv : ax_nlk M.1.cls idx M' n) (hn : As.length = n) (hst : st0 = As.reverse ++ st) (hw : (st.map fun v => (ax_v (fun _ => 0) v).category).sum ≤ 8)
    (hM : ax_Ct sh d M' (As) (fun r u => r = none ∧ ax_W sh (d + 1) M Q q lv st u) σ) : ax_W sh (d + 1) M Q pc lv st0 σ := by
  refine ax_callN hd hq hv hn hst hw hM (fun r u h => ?_)
  obtain ⟨rfl, h⟩ := h
  exact h
theorem ax_cvl {x y : Int64} (h : x = y) (k : ax_W sh d M Q pc lv (ax_l x :: st) σ) : ax_W sh d M Q pc lv (ax_l y :: st) σ := h ▸ k
theorem ax_net {x : Int32} {k : Int} (kk : Int32) (hk : kk.toInt = k) (h : ¬ x = kk) : x.toInt ≠ k := fun e => h (Int32.toInt_inj.mp (e.trans hk.symm))
theorem ax_S1 {σ τ : ax_S} (h : σ = τ) (k : ax_W sh d M Q pc lv st σ) : ax_W sh d M Q pc lv st τ := h ▸ k
theorem ax_iincK {i : Nat} {n : Int} {x k : Int32} {lv2 : List (Option ax_V)} (hd : decode M.2.1 pc = .ok (.iinc i n, 3)) (hq : pc + 3 = q) (hx : lv[i]? = some (some (ax_i x))) (hk : Int32.ofInt n = k) (hn : i < M.2.2.1) (hnl : ax_nl lv i = true) (hlv : lv.set i (some (ax_i (x + k))) = lv2) (kk : ax_W sh d M Q q lv2 st σ) : ax_W sh d M Q pc lv st σ := ax_iinc hd hq hx (by rw [hk]) hn hnl hlv kk
theorem ax_ifc {b c : Prop} [Decidable b] [Decidable c] (h : b ↔ c) : (if b then (1 : Int32) else 0) = if c then 1 else 0 := by
  by_cases hc : c
  · rw [if_pos hc, if_pos (h.mpr hc)]
  · rw [if_neg hc, if_neg (fun z => hc (h.mp z))]
theorem ax_inl (i n : Nat) (h : i < n) (hn : n < 2 ^ 31) : vp_in (OfNat.ofNat i : Int32) n := vp_in_nI h hn
theorem ax_nb01 {x : Int32} (h : x = 0 ∨ x = 1) : narrow .boolean (.int x) = .int x := by rcases h with rfl | rfl <;> rfl
theorem ax_fb01 {x : Int32} (h : x = 0 ∨ x = 1) : fits .boolean (.int x) = true := by rcases h with rfl | rfl <;> rfl
def ax_sub : List (Option ax_V) → List (Option ax_V) → Prop
  | [], _ => True
  | none :: t, _ :: u => ax_sub t u
  | some v :: t, w :: u => w = some v ∧ ax_sub t u
  | _ :: _, [] => False
theorem ax_sub.use : ∀ {a b : List (Option ax_V)}, ax_sub a b → ∀ (i : Nat) (v : ax_V), a[i]? = some (some v) → b[i]? = some (some v) := by
  intro a
  induction a with
  | nil => intro b _ i v h; simp at h
  | cons x t ih =>
    intro b hb i v h
    cases b with
    | nil => cases x <;> exact absurd hb (by simp [ax_sub])
    | cons y u =>
      cases x with
      | none =>
        cases i with
        | zero => simp at h
        | succ i => simpa using ih (b := u) hb i v (by simpa using h)
      | some x =>
        cases i with
        | zero =>
          have h1 : x = v := by simpa using h
          subst h1
          simpa using hb.1
        | succ i => simpa using ih (b := u) hb.2 i v (by simpa using h)
theorem ax_fg {lv2 : List (Option ax_V)} (h : ax_sub lv2 lv) (k : ax_W sh d M Q pc lv2 st σ) : ax_W sh d M Q pc lv st σ := ax_forget h.use k
end AZ
