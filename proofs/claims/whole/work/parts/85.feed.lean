/-! ===== FEED ===== -/
/-- the tape as a list -/
def tkOk (T : List Nat) : Prop := T.length ≤ 240 ∧ ∀ b ∈ T, 1 ≤ b ∧ b ≤ 255
def tkC (u : ax_S) (T : List Nat) : Prop := u.1 1 1 = nI T.length ∧ ∀ i b, T[i]? = some b → u.1 14 i = nI b
def tkM (u : ax_S) (T : List Nat) : Prop := u.1 0 2 = nI T.length ∧ ∀ i b, T[i]? = some b → u.1 1 i = nI b
def tkS (c i : Nat) : Prop := (c = 1 ∧ i = 1) ∨ c = 14
def tkN (c i : Nat) : Prop := (c = 0 ∧ i = 2) ∨ c = 1
theorem tk_list (tl : Nat) (tp : Nat → Nat) {i b : Nat} (h : ((List.range tl).map tp)[i]? = some b) : i < tl ∧ b = tp i := by
  rw [List.getElem?_map] at h
  by_cases z : i < tl
  · rw [List.getElem?_range z] at h
    exact ⟨z, (Option.some.inj h).symm⟩
  · rw [List.getElem?_eq_none (by rw [List.length_range]; omega)] at h; cases h
theorem RR.tape {j : Nat} {σ τ : ax_S} (h : RR j σ τ) : ∃ T : List Nat, tkOk T ∧ tkC σ T ∧ tkM τ T ∧
    ∀ T' u w, tkOk T' → fo (fun c i => tkS c i ∨ scC c i) u σ → tkC u T' → fo (fun c i => tkN c i ∨ scM c i) w τ → tkM w T' → RR (j + 1) u w := by
  obtain ⟨tl, tp, n, E, D, dry, lw, ho, L, st, ki, rf, nc, no, tc, te, a, T, H, im, I, ⟨o1, o2, o3, o4, o5, o6, o7, o8, o9, o10, o11⟩, ⟨c1, c2, c3, c4, c5, c6, c7, c8, c9⟩, ⟨m1, m2, m3, m4, m5, m6, m7, m8⟩⟩ := h
  refine ⟨(List.range tl).map tp, ⟨by rw [List.length_map, List.length_range]; exact o1.1, fun b hb => ?_⟩, ⟨by rw [List.length_map, List.length_range]; exact c1.1, fun i b hi => ?_⟩, ⟨by rw [List.length_map, List.length_range]; exact m1.1, fun i b hi => ?_⟩, ?_⟩
  · obtain ⟨i, hi, rfl⟩ := List.mem_map.mp hb
    exact o1.2 i (List.mem_range.mp hi)
  · obtain ⟨q1, q2⟩ := tk_list tl tp hi
    rw [q2]; exact c1.2 i q1
  · obtain ⟨q1, q2⟩ := tk_list tl tp hi
    rw [q2]; exact m1.2 i q1
  · rintro T' u w hT hu huT hw hwT
    refine ⟨T'.length, fun i => T'.getD i 0, n, E, D, dry, lw, ho, L, st, ki, rf, nc, no, tc, te, a, T, H, im, I, ⟨⟨hT.1, fun i hi => ?_⟩, o2, o3, o4, o5, o6, o7, o8, o9, o10, by omega⟩, ⟨⟨huT.1, fun i hi => ?_⟩, c2.to hu.1 ?_, c3.to hu.1 ?_, c4.to hu.1 ?_, c5.to hu.1 ?_, c6.to hu.1 ?_, c7.to hu.1 ⟨by rw [hu.2], by rw [hu.2]⟩ ?_, c8.to hu.1 ?_, c9.to hu.1 ?_⟩, ⟨⟨hwT.1, fun i hi => ?_⟩, m2.to hw.1 ?_, m3.to hw.1 ?_, m4.to hw.1 ?_, m5.to hw.1 ?_, m6.to hw.1 ?_, m7.to hw.1 ?_, m8.to hw.1 ?_⟩⟩
    · have e : T'.getD i 0 = T'[i] := by rw [List.getD_eq_getElem?_getD, List.getElem?_eq_getElem hi]; rfl
      show 1 ≤ T'.getD i 0 ∧ T'.getD i 0 ≤ 255
      rw [e]; exact hT.2 _ (List.getElem_mem hi)
    · have e : T'.getD i 0 = T'[i] := by rw [List.getD_eq_getElem?_getD, List.getElem?_eq_getElem hi]; rfl
      show u.1 14 i = nI (T'.getD i 0)
      rw [e]; exact huT.2 i _ (List.getElem?_eq_getElem hi)
    any_goals (intro c i hs; first | (unfold tkS scC scr at hs; omega) | (unfold tkN scM scm at hs; omega))
    · have e : T'.getD i 0 = T'[i] := by rw [List.getD_eq_getElem?_getD, List.getElem?_eq_getElem hi]; rfl
      show w.1 1 i = nI (T'.getD i 0)
      rw [e]; exact hwT.2 i _ (List.getElem?_eq_getElem hi)
def byN (x : Int32) (s : Nat) : Nat := ((x >>> (nI s &&& 31)) &&& (255 : Int32)).toBitVec.toNat
theorem nI_tn (x : Int32) : nI x.toBitVec.toNat = x := by
  obtain ⟨n, hn, rfl⟩ := wb_of32 x
  have : (nI n).toBitVec.toNat = n := by
    show (BitVec.ofNat 32 n).toNat = n
    rw [BitVec.toNat_ofNat, Nat.mod_eq_of_lt hn]
  rw [this]
theorem by_eq (x : Int32) (s : Nat) : (x >>> (nI s &&& 31)) &&& (255 : Int32) = nI (byN x s) := (nI_tn _).symm
theorem by_lt (x : Int32) (s : Nat) : byN x s ≤ 255 := by
  unfold byN
  rw [Int32.toBitVec_and, BitVec.toNat_and]
  exact Nat.and_le_right
theorem by_0 (x : Int32) (s : Nat) : ((x >>> (nI s &&& 31)) &&& (255 : Int32) = 0) ↔ byN x s = 0 := by
  have := by_lt x s
  rw [by_eq]; exact n_eq _ 0
def ff (b : Nat) : List Nat := if b = 0 then [] else [b]
theorem ff_len (b : Nat) : (ff b).length = if b = 0 then 0 else 1 := by unfold ff; split <;> rfl
theorem ff_mem {b x : Nat} (h : x ∈ ff b) : x = b ∧ b ≠ 0 := by
  unfold ff at h; split at h
  · exact absurd h List.not_mem_nil
  · rename_i z; exact ⟨List.mem_singleton.mp h, z⟩
def wl (x : Int32) : List Nat := ff (byN x 24) ++ (ff (byN x 16) ++ (ff (byN x 8) ++ ff (byN x 0)))
theorem ct_X11_bytesOf {d : Nat} (hd : 1 ≤ d) (σ : ax_S) (x : Int32) : ax_Ct shC d mX11_bytesOf [ax_i x] (fun r u => r = some (ax_i (nI (wl x).length)) ∧ u = σ) σ := by
  obtain ⟨d, rfl⟩ : ∃ e, d = e + 1 := ⟨d - 1, by omega⟩
  refine ax_Ct.of (lv := [some (ax_i x), none, none]) (by decide +kernel) (fun ad => Nat.le_of_ble_eq_true rfl) (fun ad => rfl) ?_
  refine s_X11_bytesOf_0 (by omega) σ _ ?_
  have step : ∀ s c y, s < 32 → nI s + 8 = y → ax_W shC (d + 1) mX11_bytesOf (fun r u => r = some (ax_i (nI (wl x).length)) ∧ u = σ) 4 [some (ax_i x), some (ax_i (nI (c + (ff (byN x s)).length))), some (ax_i y)] [] σ → ax_W shC (d + 1) mX11_bytesOf (fun r u => r = some (ax_i (nI (wl x).length)) ∧ u = σ) 4 [some (ax_i x), some (ax_i (nI c)), some (ax_i (nI s))] [] σ := by
    intro s c y hs hy K
    refine s_X11_bytesOf_4 (by omega) σ _ _ _ (fun z => absurd ((n_le 32 s).mp z) (by omega)) (fun _ z => ?_) (fun _ z => ?_)
    · rw [ff_len, if_pos ((by_0 x s).mp z), Nat.add_zero] at K
      rw [hy]; exact K
    · rw [ff_len, if_neg (fun q => z ((by_0 x s).mpr q))] at K
      rw [hy, nI_1]; exact K
  refine step 0 0 (nI 8) (by omega) (by decide) ?_
  refine step 8 _ (nI 16) (by omega) (by decide) ?_
  refine step 16 _ (nI 24) (by omega) (by decide) ?_
  refine step 24 _ (nI 32) (by omega) (by decide) ?_
  refine s_X11_bytesOf_4 (by omega) σ _ _ _ (fun _ => ⟨?_, rfl⟩) (fun c => absurd ((n_le 32 32).mpr (Nat.le_refl _)) c) (fun c => absurd ((n_le 32 32).mpr (Nat.le_refl _)) c)
  congr 3
  unfold wl
  rw [List.length_append, List.length_append, List.length_append]; omega
theorem tkC.push {u : ax_S} {T : List Nat} {b : Nat} (h : tkC u T) : tkC (ax_ui (ax_ui u 14 T.length (nI b)) 1 1 (nI (T.length + 1))) (T ++ [b]) := by
  refine ⟨by rw [ui_same, List.length_append]; rfl, fun i x hx => ?_⟩
  rw [ui_cell (by omega)]
  by_cases e : i = T.length
  · subst e
    rw [List.getElem?_append_right (Nat.le_refl _), Nat.sub_self] at hx
    have : b = x := Option.some.inj hx
    rw [ui_same, this]
  · have hi : i < T.length := by
      have := (List.getElem?_eq_some_iff.mp hx).1
      rw [List.length_append] at this
      have h1 : [b].length = 1 := rfl
      omega
    rw [List.getElem?_append_left hi] at hx
    rw [ui_idx e]; exact h.2 i x hx
theorem tkM.push {u : ax_S} {T : List Nat} {b : Nat} (h : tkM u T) : tkM (ax_ui (ax_ui u 1 T.length (nI b)) 0 2 (nI (T.length + 1))) (T ++ [b]) := by
  refine ⟨by rw [ui_same, List.length_append]; rfl, fun i x hx => ?_⟩
  rw [ui_cell (by omega)]
  by_cases e : i = T.length
  · subst e
    rw [List.getElem?_append_right (Nat.le_refl _), Nat.sub_self] at hx
    have : b = x := Option.some.inj hx
    rw [ui_same, this]
  · have hi : i < T.length := by
      have := (List.getElem?_eq_some_iff.mp hx).1
      rw [List.length_append] at this
      have h1 : [b].length = 1 := rfl
      omega
    rw [List.getElem?_append_left hi] at hx
    rw [ui_idx e]; exact h.2 i x hx
theorem ct_X9_addBytes {d : Nat} (hd : 1 ≤ d) {σ u : ax_S} {T : List Nat} (x : Int32) (hu : fo tkS u σ) (hT : tkC u T) (hl : T.length + (wl x).length ≤ 240) :
    ax_Ct shC d mX9_addBytes [ax_r 1, ax_i x] (fun r w => r = none ∧ fo tkS w σ ∧ tkC w (T ++ wl x)) u := by
  obtain ⟨d, rfl⟩ : ∃ e, d = e + 1 := ⟨d - 1, by omega⟩
  refine ax_Ct.of (lv := [some (ax_r 1), some (ax_i x), none, none]) (by decide +kernel) (fun ad => Nat.le_of_ble_eq_true rfl) (fun ad => rfl) ?_
  refine s_X9_addBytes_0 (by omega) u _ ?_
  have step : ∀ s T u y, s < 32 → nI s + (-8) = y → T.length + (ff (byN x s)).length ≤ 240 → fo tkS u σ → tkC u T → ∀ {Q}, (∀ w, fo tkS w σ → tkC w (T ++ ff (byN x s)) → ax_W shC (d + 1) mX9_addBytes Q 3 [some (ax_r 1), some (ax_i x), some (ax_i y), none] [] w) → ax_W shC (d + 1) mX9_addBytes Q 3 [some (ax_r 1), some (ax_i x), some (ax_i (nI s)), none] [] u := by
    intro s T u y hs hy hlen hu hT Q K
    rw [ff_len] at hlen
    refine s_X9_addBytes_3 (by omega) u _ _ (fun c => absurd c (n_nn s)) (fun _ c => ?_) (fun _ c c2 => ?_) (fun _ c _ => ?_) (fun _ c _ => ?_)
    · have c' := (by_0 x s).mp c
      rw [hy]
      refine K u hu ?_
      unfold ff; rw [if_pos c', List.append_nil]; exact hT
    · rw [if_neg (fun q => c ((by_0 x s).mpr q))] at hlen
      rw [hT.1] at c2
      exact absurd ((n_le 240 T.length).mp c2) (by omega)
    · rw [if_neg (fun q => c ((by_0 x s).mpr q))] at hlen
      rw [hT.1]; exact n_in _ _
    · have c' : ¬ byN x s = 0 := fun q => c ((by_0 x s).mpr q)
      rw [if_neg c'] at hlen
      rw [hy, hT.1, by_eq, n_tn T.length, nI_1]
      refine K _ ((hu.ui (Or.inr rfl)).ui (Or.inl ⟨rfl, rfl⟩)) ?_
      unfold ff; rw [if_neg c']; exact hT.push
  unfold wl at hl ⊢
  rw [List.length_append, List.length_append, List.length_append] at hl
  refine step 24 T u (nI 16) (by omega) (by decide) (by omega) hu hT (fun u1 f1 t1 => ?_)
  refine step 16 _ u1 (nI 8) (by omega) (by decide) (by rw [List.length_append]; omega) f1 t1 (fun u2 f2 t2 => ?_)
  refine step 8 _ u2 (nI 0) (by omega) (by decide) (by rw [List.length_append, List.length_append]; omega) f2 t2 (fun u3 f3 t3 => ?_)
  refine step 0 _ u3 (-8) (by omega) (by decide) (by rw [List.length_append, List.length_append, List.length_append]; omega) f3 t3 (fun u4 f4 t4 => ?_)
  refine s_X9_addBytes_3 (by omega) u4 _ _ (fun _ => ⟨rfl, f4, ?_⟩) (fun c => absurd (by decide) c) (fun c => absurd (by decide) c) (fun c => absurd (by decide) c) (fun c => absurd (by decide) c)
  rw [List.append_assoc, List.append_assoc, List.append_assoc] at t4; exact t4
/-- all bytes, in the reference's order -/
def bB (x : Int32) : List Nat := [byN x 24, byN x 16, byN x 8, byN x 0]
def bbs (a b c d e : Int32) : List Nat := bB a ++ (bB b ++ (bB c ++ (bB d ++ bB e)))
def fl : List Nat → List Nat
  | [] => []
  | b :: t => ff b ++ fl t
theorem fl_app : ∀ a b : List Nat, fl (a ++ b) = fl a ++ fl b
  | [], b => rfl
  | x :: a, b => by rw [List.cons_append, fl, fl, fl_app a b, List.append_assoc]
theorem fl_B (x : Int32) : fl (bB x) = wl x := by
  unfold bB wl
  rw [fl, fl, fl, fl, fl, List.append_nil]
theorem fl_bbs (a b c d e : Int32) : fl (bbs a b c d e) = wl a ++ (wl b ++ (wl c ++ (wl d ++ wl e))) := by
  unfold bbs
  rw [fl_app, fl_app, fl_app, fl_app, fl_B, fl_B, fl_B, fl_B, fl_B]
theorem wl_mem {x : Int32} {b : Nat} (h : b ∈ wl x) : 1 ≤ b ∧ b ≤ 255 := by
  have k : ∀ s, b ∈ ff (byN x s) → 1 ≤ b ∧ b ≤ 255 := fun s hs => by
    obtain ⟨h1, h2⟩ := ff_mem hs
    have := by_lt x s
    omega
  unfold wl at h
  rw [List.mem_append, List.mem_append, List.mem_append] at h
  rcases h with h | h | h | h
  · exact k _ h
  · exact k _ h
  · exact k _ h
  · exact k _ h
theorem by_ref (a b c d e : Int32) : ∀ k, k < 20 → v_X12_byteOf a b c d e (nI k) = nI ((bbs a b c d e).getD k 0) := by
  intro k hk
  obtain rfl | rfl | rfl | rfl | rfl | rfl | rfl | rfl | rfl | rfl | rfl | rfl | rfl | rfl | rfl | rfl | rfl | rfl | rfl | rfl : k = 0 ∨ k = 1 ∨ k = 2 ∨ k = 3 ∨ k = 4 ∨ k = 5 ∨ k = 6 ∨ k = 7 ∨ k = 8 ∨ k = 9 ∨ k = 10 ∨ k = 11 ∨ k = 12 ∨ k = 13 ∨ k = 14 ∨ k = 15 ∨ k = 16 ∨ k = 17 ∨ k = 18 ∨ k = 19 := by omega
  all_goals (show _ = nI (byN _ _); rw [← by_eq]; rfl)
theorem good_feed {j : Nat} {σ τ : ax_S} (h : RR j σ τ) (a b c d e : Int32) : good j mX11_feed mX12_feed [ax_i a, ax_i b, ax_i c, ax_i d, ax_i e] σ τ := by
  obtain ⟨T, hT, hC, hM, hnext⟩ := h.tape
  have l1 : ∀ x, (wl x).length ≤ 4 := fun x => by
    unfold wl
    rw [List.length_append, List.length_append, List.length_append, ff_len, ff_len, ff_len, ff_len]
    repeat' split
    all_goals omega
  have la := l1 a
  have lb := l1 b
  have lc := l1 c
  have ld := l1 d
  have le := l1 e
  have hTl := hT.1
  have hlen : (wl a ++ (wl b ++ (wl c ++ (wl d ++ wl e)))).length = (wl a).length + (wl b).length + (wl c).length + (wl d).length + (wl e).length := by
    rw [List.length_append, List.length_append, List.length_append, List.length_append]; omega
  let W := wl a ++ (wl b ++ (wl c ++ (wl d ++ wl e)))
  have hsum : nI T.length + (nI (wl a).length + nI (wl b).length + nI (wl c).length + nI (wl d).length + nI (wl e).length) = nI (T.length + W.length) := by
    rw [n_add, n_add, n_add, n_add, n_add]; congr 1; show _ = T.length + (wl a ++ (wl b ++ (wl c ++ (wl d ++ wl e)))).length; rw [hlen]
  -- the class up to its test
  have cls : ∀ Q, (T.length + W.length ≤ 240 → ax_Ct shC 59 mX9_addBytes [ax_r 1, ax_i a] (fun r u => r = none ∧ ax_W shC (59 + 1) mX11_feed Q 54 [some (ax_r 0), none, some (ax_i b), some (ax_i c), some (ax_i d), some (ax_i e), none] [] u) σ) → (¬ T.length + W.length ≤ 240 → Q (some (ax_i (-1))) σ) → ax_W shC (59 + 1) mX11_feed Q 0 [some (ax_r 0), some (ax_i a), some (ax_i b), some (ax_i c), some (ax_i d), some (ax_i e), none] [] σ := by
    intro Q K1 K2
    refine s_X11_feed_0 (d := 59) (by omega) σ _ _ _ _ _ ?_
    refine (ct_X11_bytesOf (by omega) σ a).mono ?_
    rintro r u ⟨rfl, rfl⟩
    refine ⟨_, rfl, s_X11_feed_4 (by omega) u _ _ _ _ _ _ ?_⟩
    refine (ct_X11_bytesOf (by omega) u b).mono ?_
    rintro r u ⟨rfl, rfl⟩
    refine ⟨_, rfl, s_X11_feed_8 (by omega) u _ _ _ _ _ _ _ ?_⟩
    refine (ct_X11_bytesOf (by omega) u c).mono ?_
    rintro r u ⟨rfl, rfl⟩
    refine ⟨_, rfl, s_X11_feed_13 (by omega) u _ _ _ _ _ _ _ ?_⟩
    refine (ct_X11_bytesOf (by omega) u d).mono ?_
    rintro r u ⟨rfl, rfl⟩
    refine ⟨_, rfl, s_X11_feed_19 (by omega) u _ _ _ _ _ _ _ ?_⟩
    refine (ct_X11_bytesOf (by omega) u e).mono ?_
    rintro r u ⟨rfl, rfl⟩
    have key : (u.1 1 1 + (nI (wl a).length + nI (wl b).length + nI (wl c).length + nI (wl d).length + nI (wl e).length) ≤ (240 : Int32)) ↔ T.length + W.length ≤ 240 := by
      rw [hC.1, hsum]
      exact n_le (T.length + W.length) 240 (by show T.length + (wl a ++ (wl b ++ (wl c ++ (wl d ++ wl e)))).length < _; rw [hlen]; omega)
    exact ⟨_, rfl, s_X11_feed_25 (by omega) u _ _ _ _ _ _ _ (fun z => K1 (key.mp z)) (fun z => K2 (fun y => z (key.mpr y)))⟩
  -- the reference up to its test
  have bbl : (bbs a b c d e).length = 20 := rfl
  have bbd : ∀ k, k < 20 → ∃ x, (bbs a b c d e).drop k = x :: (bbs a b c d e).drop (k + 1) ∧ v_X12_byteOf a b c d e (nI k) = nI x ∧ x ≤ 255 := fun k hk => by
    have hk' : k < (bbs a b c d e).length := by rw [bbl]; exact hk
    refine ⟨(bbs a b c d e)[k], List.drop_eq_getElem_cons hk', ?_, ?_⟩
    · rw [by_ref a b c d e k hk, List.getD_eq_getElem?_getD, List.getElem?_eq_getElem hk']; rfl
    · have hm : (bbs a b c d e)[k] ∈ bbs a b c d e := List.getElem_mem hk'
      have hB : ∀ x y, y ∈ bB x → y ≤ 255 := fun x y hy => by
        unfold bB at hy
        simp only [List.mem_cons, List.not_mem_nil, or_false] at hy
        rcases hy with rfl | rfl | rfl | rfl <;> exact by_lt _ _
      generalize (bbs a b c d e)[k] = y at hm
      unfold bbs at hm
      rw [List.mem_append, List.mem_append, List.mem_append, List.mem_append] at hm
      rcases hm with hm | hm | hm | hm | hm <;> exact hB _ _ hm
  have refc : ∀ Q, (T.length + W.length ≤ 240 → ax_W shM (59 + 1) mX12_feed Q 62 [some (ax_r 0), some (ax_i a), some (ax_i b), some (ax_i c), some (ax_i d), some (ax_i e), none, some (ax_i 0), none] [] τ) → (¬ T.length + W.length ≤ 240 → Q (some (ax_i (-1))) τ) → ax_W shM (59 + 1) mX12_feed Q 0 [some (ax_r 0), some (ax_i a), some (ax_i b), some (ax_i c), some (ax_i d), some (ax_i e), none, none, none] [] τ := by
    intro Q K1 K2
    refine s_X12_feed_0 (d := 59) (by omega) τ _ _ _ _ _ ?_
    have loop := lp_up (m := 20) (P := fun k => ∀ q, q + (fl ((bbs a b c d e).drop k)).length = W.length → ax_W shM (59 + 1) mX12_feed Q 6 [some (ax_r 0), some (ax_i a), some (ax_i b), some (ax_i c), some (ax_i d), some (ax_i e), some (ax_i (nI q)), some (ax_i (nI k)), none] [] τ) ?_ ?_
    · refine loop 0 (by omega) 0 ?_
      rw [Nat.zero_add, List.drop_zero, fl_bbs]
    · intro q hq
      have e0 : (bbs a b c d e).drop 20 = [] := List.drop_of_length_le (by rw [bbl]; omega)
      rw [e0] at hq
      have hq' : q = W.length := hq
      have hW : W.length ≤ 20 := by show (wl a ++ (wl b ++ (wl c ++ (wl d ++ wl e)))).length ≤ 20; rw [hlen]; omega
      have key : (τ.1 0 2 + nI q ≤ (240 : Int32)) ↔ T.length + W.length ≤ 240 := by
        rw [hM.1, n_add, hq']; exact n_le (T.length + W.length) 240
      exact s_X12_feed_6 (by omega) τ _ _ _ _ _ _ _ (fun _ z => K1 (key.mp z)) (fun _ z => K2 (fun y => z (key.mpr y))) (fun z => absurd ((n_le 20 20).mpr (Nat.le_refl _)) z)
    · intro k hk ih q hq
      obtain ⟨x, x1, x2, x3⟩ := bbd k hk
      rw [x1, fl, List.length_append, ff_len] at hq
      refine s_X12_feed_6 (by omega) τ _ _ _ _ _ _ _ (fun z => absurd ((n_le 20 k).mp z) (by omega)) (fun z => absurd ((n_le 20 k).mp z) (by omega)) (fun _ => ?_)
      rw [x2, nI_1]
      have ex := n_eq x 0
      by_cases z : x = 0
      · rw [if_pos z] at hq
        rw [if_neg (show ¬ ¬ nI x = (0 : Int32) from not_not_intro (ex.mpr z)), show nI q + (0 : Int32) = nI q from n_add q 0]
        exact ih q (by omega)
      · rw [if_neg z] at hq
        rw [if_pos (show ¬ nI x = (0 : Int32) from fun y => z (ex.mp y)), nI_1]
        exact ih (q + 1) (by omega)
  by_cases g : T.length + W.length ≤ 240
  · refine ⟨nI (T.length + W.length), (fun u => fo tkS u σ ∧ tkC u (T ++ W)), (fun w => fo tkN w τ ∧ tkM w (T ++ W)), ?_, ?_, ?_⟩
    · refine ax_Ct.of (lv := [some (ax_r 0), some (ax_i a), some (ax_i b), some (ax_i c), some (ax_i d), some (ax_i e), none]) (by decide +kernel) (fun ad => Nat.le_of_ble_eq_true rfl) (fun ad => rfl) ?_
      refine cls _ (fun _ => ?_) (fun z => absurd g z)
      have g' : T.length + ((wl a).length + (wl b).length + (wl c).length + (wl d).length + (wl e).length) ≤ 240 := by rw [← hlen]; exact g
      refine (ct_X9_addBytes (σ := σ) (by omega) a fo.rfl' hC (by omega)).mono ?_
      rintro r u1 ⟨rfl, f1, t1⟩
      refine ⟨rfl, s_X11_feed_54 (by omega) u1 _ _ _ _ ?_⟩
      refine (ct_X9_addBytes (by omega) b f1 t1 (by rw [List.length_append]; omega)).mono ?_
      rintro r u2 ⟨rfl, f2, t2⟩
      refine ⟨rfl, s_X11_feed_62 (by omega) u2 _ _ _ ?_⟩
      refine (ct_X9_addBytes (by omega) c f2 t2 (by rw [List.length_append, List.length_append]; omega)).mono ?_
      rintro r u3 ⟨rfl, f3, t3⟩
      refine ⟨rfl, s_X11_feed_70 (by omega) u3 _ _ ?_⟩
      refine (ct_X9_addBytes (by omega) d f3 t3 (by rw [List.length_append, List.length_append, List.length_append]; omega)).mono ?_
      rintro r u4 ⟨rfl, f4, t4⟩
      refine ⟨rfl, s_X11_feed_79 (by omega) u4 _ ?_⟩
      refine (ct_X9_addBytes (by omega) e f4 t4 (by rw [List.length_append, List.length_append, List.length_append, List.length_append]; omega)).mono ?_
      rintro r u5 ⟨rfl, f5, t5⟩
      rw [List.append_assoc, List.append_assoc, List.append_assoc, List.append_assoc] at t5
      have t5' : tkC u5 (T ++ W) := t5
      exact ⟨rfl, s_X11_feed_88 (by omega) u5 ⟨by rw [t5'.1, List.length_append], f5, t5'⟩⟩
    · refine ax_Ct.of (lv := [some (ax_r 0), some (ax_i a), some (ax_i b), some (ax_i c), some (ax_i d), some (ax_i e), none, none, none]) (by decide +kernel) (fun ad => Nat.le_of_ble_eq_true rfl) (fun ad => rfl) ?_
      refine refc _ (fun _ => ?_) (fun z => absurd g z)
      have loop := lp_up (m := 20) (P := fun k => ∀ w S, fo tkN w τ → tkM w S → S ++ fl ((bbs a b c d e).drop k) = T ++ W → ax_W shM (59 + 1) mX12_feed (fun r w => r = some (ax_i (nI (T.length + W.length))) ∧ fo tkN w τ ∧ tkM w (T ++ W)) 62 [some (ax_r 0), some (ax_i a), some (ax_i b), some (ax_i c), some (ax_i d), some (ax_i e), none, some (ax_i (nI k)), none] [] w) ?_ ?_
      · refine loop 0 (by omega) τ T fo.rfl' hM ?_
        rw [List.drop_zero, fl_bbs]
      · intro w S hw hS hSW
        have e0 : (bbs a b c d e).drop 20 = [] := List.drop_of_length_le (by rw [bbl]; omega)
        rw [e0, fl, List.append_nil] at hSW
        subst hSW
        exact s_X12_feed_62 (by omega) w _ _ _ _ _ _ (fun _ => ⟨by rw [hS.1, List.length_append], hw, hS⟩) (fun z => absurd ((n_le 20 20).mpr (Nat.le_refl _)) z) (fun z => absurd ((n_le 20 20).mpr (Nat.le_refl _)) z) (fun z => absurd ((n_le 20 20).mpr (Nat.le_refl _)) z)
      · intro k hk ih w S hw hS hSW
        obtain ⟨x, x1, x2, x3⟩ := bbd k hk
        rw [x1, fl] at hSW
        have ex := n_eq x 0
        have hl : S.length + (ff x).length ≤ 240 := by
          have := congrArg List.length hSW
          rw [List.length_append, List.length_append, List.length_append] at this; omega
        refine s_X12_feed_62 (by omega) w _ _ _ _ _ _ (fun z => absurd ((n_le 20 k).mp z) (by omega)) (fun _ z => ?_) (fun _ z => ?_) (fun _ z => ?_)
        · rw [x2] at z
          have z' := ex.mp z
          rw [nI_1]
          refine ih w S hw hS ?_
          rw [← hSW]; unfold ff; rw [if_pos z', List.nil_append]
        · rw [x2] at z
          have z' : ¬ x = 0 := fun y => z (ex.mpr y)
          rw [ff_len, if_neg z'] at hl
          rw [hS.1]; exact n_in _ _
        · rw [x2] at z
          have z' : ¬ x = 0 := fun y => z (ex.mpr y)
          rw [ff_len, if_neg z'] at hl
          rw [hS.1, x2, n_tn S.length, nI_1, nI_1]
          refine ih _ (S ++ [x]) ((hw.ui (Or.inr rfl)).ui (Or.inl ⟨rfl, rfl⟩)) hS.push ?_
          rw [← hSW, List.append_assoc]; unfold ff; rw [if_neg z']
    · rintro u w ⟨fu, tu⟩ ⟨fw, tw⟩
      refine hnext (T ++ W) u w ⟨by rw [List.length_append]; exact g, fun x hx => ?_⟩ (fu.mono (fun _ _ z => Or.inl z)) tu (fw.mono (fun _ _ z => Or.inl z)) tw
      rcases List.mem_append.mp hx with hx | hx
      · exact hT.2 x hx
      · have hx' : x ∈ wl a ++ (wl b ++ (wl c ++ (wl d ++ wl e))) := hx
        rw [List.mem_append, List.mem_append, List.mem_append, List.mem_append] at hx'
        rcases hx' with hx | hx | hx | hx | hx <;> exact wl_mem hx
  · refine good.ask h (-1) ?_ ?_
    · refine ax_Ct.of (lv := [some (ax_r 0), some (ax_i a), some (ax_i b), some (ax_i c), some (ax_i d), some (ax_i e), none]) (by decide +kernel) (fun ad => Nat.le_of_ble_eq_true rfl) (fun ad => rfl) ?_
      exact cls _ (fun z => absurd z g) (fun _ => ⟨rfl, fo.rfl'⟩)
    · refine ax_Ct.of (lv := [some (ax_r 0), some (ax_i a), some (ax_i b), some (ax_i c), some (ax_i d), some (ax_i e), none, none, none]) (by decide +kernel) (fun ad => Nat.le_of_ble_eq_true rfl) (fun ad => rfl) ?_
      exact refc _ (fun z => absurd z g) (fun _ => ⟨rfl, fo.rfl'⟩)
