/-! ===== a mask of 17 places and how many it has; how many parts a stroke has ===== -/
theorem bt_nI (k i : Nat) : bt (nI k) i = (decide (i < 32) && k.testBit i) := by
  show (BitVec.ofNat 32 k).getLsbD i = _
  rw [BitVec.getLsbD_ofNat]
theorem bc_mask {x : Int32} (h : ∀ i, 17 ≤ i → i < 32 → bt x i = false) : v_J6_bitCount_0f7a4 x = nI (fb_ct (bt x) 17) := by
  have hb : ∀ i, x.toBitVec.toNat.testBit i = bt x i := fun i => rfl
  have hk : x.toBitVec.toNat < 2 ^ 17 := by
    refine Nat.lt_pow_two_of_testBit _ (fun i hi => ?_)
    rw [hb i]
    by_cases h32 : i < 32
    · exact h i hi h32
    · exact b_big (by omega)
  have hx : x = nI x.toBitVec.toNat := by
    apply b_ext
    intro i hi
    rw [bt_nI, hb i]; simp [hi]
  have h1 := bc_cnt (k := x.toBitVec.toNat) hk
  rw [← hx] at h1
  rw [h1]
  congr 1
theorem sk_one (a : Nat) : ∀ n, fb_sm (fun h => if h = a then 1 else 0) n ≤ 1 := by
  intro n
  by_cases h : a < n
  · have h1 := fb_sm_upd (fun _ => 0) 1 h
    have h2 := fb_sm_const 0 n
    simp at h1 h2
    omega
  · have h1 := fb_sm_out (fun _ => 0) 1 (i := a) (n := n) (by omega)
    have h2 := fb_sm_const 0 n
    simp at h1 h2
    omega
theorem sk_dg_all (fr to : Nat → Nat) (lv : Nat → Bool) (n : Nat) : ∀ W, fb_sm (fun h => fb_ct (fun w => lv w && (decide (fr w = h) || decide (to w = h))) W) n ≤ 2 * W := by
  intro W
  induction W with
  | zero =>
    have : fb_sm (fun h => fb_ct (fun w => lv w && (decide (fr w = h) || decide (to w = h))) 0) n = n * 0 := fb_sm_const 0 n
    omega
  | succ W ih =>
    have h1 : fb_sm (fun h => fb_ct (fun w => lv w && (decide (fr w = h) || decide (to w = h))) (W + 1)) n = fb_sm (fun h => fb_ct (fun w => lv w && (decide (fr w = h) || decide (to w = h))) W) n + fb_sm (fun h => if (lv W && (decide (fr W = h) || decide (to W = h))) then 1 else 0) n := fb_sm_add _ _ n
    have h2 : fb_sm (fun h => if (lv W && (decide (fr W = h) || decide (to W = h))) then 1 else 0) n ≤ fb_sm (fun h => (if h = fr W then 1 else 0) + (if h = to W then 1 else 0)) n := by
      refine fb_sm_le (fun h _ => ?_)
      by_cases e1 : h = fr W
      · simp [e1]; split <;> omega
      · by_cases e2 : h = to W
        · simp [e2]; split <;> omega
        · have e1' : ¬ fr W = h := fun e => e1 e.symm
          have e2' : ¬ to W = h := fun e => e2 e.symm
          simp [e1', e2']
    have h3 : fb_sm (fun h => (if h = fr W then 1 else 0) + (if h = to W then 1 else 0)) n = _ := fb_sm_add _ _ n
    have h4 := sk_one (fr W) n
    have h5 := sk_one (to W) n
    omega
theorem sk_iv_len {n : Nat} {fr to : Nat → Nat} {lv : Nat → Bool} {v i : Nat} {q : List (Nat × Nat × Nat)} {bn : Nat → Bool} {kt : Nat → Nat} {ws : Nat} (h : sk_iv n fr to lv v i q bn kt ws) : i + q.length ≤ 35 := by
  have h1 := h.2.2
  have h2 : fb_sm (fun h => if bn h then sk_dg fr to lv h else 0) n ≤ fb_sm (sk_dg fr to lv) n := fb_sm_le (fun k _ => by split <;> omega)
  have h3 : fb_sm (sk_dg fr to lv) n ≤ 2 * 17 := sk_dg_all fr to lv n 17
  omega
theorem sk_out_mono {fr to sa : Nat → Nat} {lv : Nat → Bool} {h b e : Nat} (k : Nat) : ∀ j, (sk_out fr to sa lv h b e k).length ≤ (sk_out fr to sa lv h b e (k + j)).length := by
  intro j
  induction j with
  | zero => exact Nat.le_refl _
  | succ j ih =>
    show _ ≤ (sk_out fr to sa lv h b e (k + j) ++ _).length
    rw [List.length_append]; omega
theorem sk_out_stop {fr to sa : Nat → Nat} {lv : Nat → Bool} {h b e k : Nat} (hs : ∀ w, k ≤ w → sk_on fr to lv h b w = false) : ∀ j, sk_out fr to sa lv h b e (k + j) = sk_out fr to sa lv h b e k ∧ sk_ws fr to sa lv h b e (k + j) = sk_ws fr to sa lv h b e k := by
  intro j
  induction j with
  | zero => exact ⟨rfl, rfl⟩
  | succ j ih =>
    have h1 := hs (k + j) (by omega)
    refine ⟨?_, ?_⟩
    · rw [← Nat.add_assoc, sk_out, ih.1, h1]; simp
    · rw [← Nat.add_assoc, sk_ws, ih.2, h1]; simp
theorem sk_ws_le {fr to sa : Nat → Nat} {lv : Nat → Bool} {h b e : Nat} : ∀ w, sk_ws fr to sa lv h b e w ≤ e * fb_ct (sk_on fr to lv h b) w := fun w => by
  have := sk_out_sum (fr := fr) (to := to) (sa := sa) (lv := lv) (h := h) (b := b) (e := e) w
  omega
