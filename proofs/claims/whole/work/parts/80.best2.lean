/-! ===== BEST ===== -/
def bsp (n : Nat) (D : Nat → Nat) (kp : Nat → Nat → Nat → Nat) (h s : Nat) : Bool := decide (¬ dk_bu n (cuD D s.testBit) kp h 50 = 0)
def bsc (n : Nat) (D : Nat → Nat) (kp : Nat → Nat → Nat → Nat) (l : List Nat) (h : Nat) : Nat := (l.filter (bsp n D kp h)).length
theorem bsc_le (n : Nat) (D : Nat → Nat) (kp : Nat → Nat → Nat → Nat) (l : List Nat) (h : Nat) : bsc n D kp l h ≤ l.length := List.length_filter_le _ _
theorem bsc_snoc (n : Nat) (D : Nat → Nat) (kp : Nat → Nat → Nat → Nat) (l : List Nat) (h s : Nat) : bsc n D kp (l ++ [s]) h = bsc n D kp l h + (if bsp n D kp h s then 1 else 0) := by
  unfold bsc
  rw [List.filter_append, List.length_append, List.filter_cons]
  split <;> rfl
theorem ct_X11_burningSets {d : Nat} (hd : 12 ≤ d) {σ u : ax_S} {n : Nat} {E D : Nat → Nat} {dry lw ho : Nat} {L : Nat → List (List (Nat × Nat) × List (Nat × Nat))} (hb : bk_ok n E D dry) (hC : bk_C σ n E D dry) (hlw : lwok lw ho L) (hlC : lwC σ lw ho L) (hu : fo scC u σ) {l : List Nat} (hlen : l.length ≤ 120) (hll : hl u l) {h : Nat} (hh : h < n) :
    ax_Ct shC d mX11_burningSets [ax_r 0, ax_i (nI h)] (fun r w => r = some (ax_i (nI (bsc n D (kpf E D dry ho L) l h))) ∧ fo scr w u) u := by
  obtain ⟨d, rfl⟩ : ∃ e, d = e + 1 := ⟨d - 1, by omega⟩
  have hn := hb.2.1
  have h84 := hb.2.2.2.1
  have hkp := kpf_le E D dry ho L
  refine ax_Ct.of (lv := [some (ax_r 0), some (ax_i (nI h)), none, none, none]) (by decide +kernel) (fun ad => Nat.le_of_ble_eq_true rfl) (fun ad => rfl) ?_
  refine s_X11_burningSets_0 (by omega) u _ ?_
  refine (ct_live (by omega) hb (sc_C hC hu)).mono ?_
  rintro r u ⟨rfl, rfl⟩
  refine ⟨_, rfl, s_X11_burningSets_7 (by omega) u _ _ ?_⟩
  have loop := lp_up (m := l.length) (P := fun i => ∀ t, fo scr t u → ax_W shC (d + 1) mX11_burningSets (fun r w => r = some (ax_i (nI (bsc n D (kpf E D dry ho L) l h))) ∧ fo scr w u) 13 [some (ax_r 0), some (ax_i (nI h)), some (ax_i (pn_set (D 84) (bk_lv D))), some (ax_i (nI (bsc n D (kpf E D dry ho L) (l.take i) h))), some (ax_i (nI i))] [] t) ?_ ?_
  · exact loop 0 (by omega) u fo.rfl'
  · intro t ht
    have htl : hl t l := hll.to ht.1 (fun c i hs => by unfold scr at hs; omega)
    have g : t.1 11 1 ≤ nI l.length := by rw [htl.1]; exact (n_le _ _).mpr (Nat.le_refl _)
    refine s_X11_burningSets_13 (by omega) t _ _ _ _ (fun _ => ⟨?_, ht⟩) (fun c => absurd g c) (fun c => absurd g c)
    rw [List.take_length]
  · intro i hi ih t ht
    have htl : hl t l := hll.to ht.1 (fun c i hs => by unfold scr at hs; omega)
    have ft : fo scC t σ := (ht.mono scr_scC).trans hu
    have g : ¬ t.1 11 1 ≤ nI i := by rw [htl.1]; exact fun z => absurd ((n_le _ _).mp z) (by omega)
    have e44 : t.1 44 (Int32.toNatClampNeg (nI i)) = nI l[i] := by rw [n_tn i]; exact htl.2 i _ (List.getElem?_eq_getElem hi)
    have etk : l.take (i + 1) = l.take i ++ [l[i]] := by rw [List.take_succ, List.getElem?_eq_getElem hi]; rfl
    refine s_X11_burningSets_13 (by omega) t _ _ _ _ (fun c => absurd c g) (fun _ => n_in _ _) (fun _ => ?_)
    rw [e44]
    refine (fl_C (by omega) (cu_ok hb _ hkp) (cu_sk hb (sc_C hC ft) _ (cutn_bt h84 l[i])) (sc_K hb hC hlw hlC ft) fo.rfl' hh (show 1 ≤ 50 by omega) (show 50 ≤ 999 by omega)).mono ?_
    rintro r w ⟨rfl, w1, -, -⟩
    refine ⟨_, rfl, s_X11_burningSets_49 (by omega) w _ _ _ _ _ (fun c => ?_) (fun c => ?_)⟩
    · have := ih w (w1.trans ht)
      rw [etk, bsc_snoc, if_neg (by unfold bsp; rw [decide_eq_true_eq]; exact not_not_intro c), Nat.add_zero] at this
      rw [nI_1]; exact this
    · have := ih w (w1.trans ht)
      rw [etk, bsc_snoc, if_pos (by unfold bsp; rw [decide_eq_true_eq]; exact c)] at this
      rw [nI_1, nI_1]; exact this
/-- the first house with the least -/
def bsR (ap : Nat → Nat) : Nat → Nat
  | 0 => 0
  | k + 1 => if ap k < ap (bsR ap k) then k else bsR ap k
theorem bsR_lt (ap : Nat → Nat) : ∀ k, bsR ap k ≤ k
  | 0 => Nat.le_refl 0
  | k + 1 => by
    have := bsR_lt ap k
    rw [bsR]; split <;> omega
theorem bsR_1 (ap : Nat → Nat) : bsR ap 1 = 0 := by rw [bsR, bsR, if_neg (by omega)]
theorem bsR_in (ap : Nat → Nat) : ∀ k, 0 < k → bsR ap k < k
  | 0, h => absurd h (by omega)
  | k + 1, _ => by
    have := bsR_lt ap k
    rw [bsR]; split <;> omega
def bap (n : Nat) (D : Nat → Nat) (kp : Nat → Nat → Nat → Nat) (l : List Nat) (h : Nat) : Nat := dst (2 * bsc n D kp l h) l.length
theorem bap_le (n : Nat) (D : Nat → Nat) (kp : Nat → Nat → Nat → Nat) (l : List Nat) (h : Nat) : bap n D kp l h ≤ l.length := by
  have := bsc_le n D kp l h
  unfold bap dst; split <;> omega
theorem i_m1 (x y : Int32) : x - y + (-1) = x - (y + 1) := by
  apply Int32.toBitVec_inj.mp
  rw [Int32.toBitVec_add, Int32.toBitVec_sub, Int32.toBitVec_sub, Int32.toBitVec_add]
  apply BitVec.eq_of_toNat_eq
  have h1 : (Int32.toBitVec (-1)).toNat = 4294967295 := by decide
  have h2 : (Int32.toBitVec 1).toNat = 1 := by decide
  rw [BitVec.toNat_add, BitVec.toNat_sub, BitVec.toNat_sub, BitVec.toNat_add, h1, h2]
  omega
theorem i_p1 (x y : Int32) : x - y + 1 = x + 2 - (y + 1) := by
  apply Int32.toBitVec_inj.mp
  rw [Int32.toBitVec_add, Int32.toBitVec_sub, Int32.toBitVec_sub, Int32.toBitVec_add, Int32.toBitVec_add]
  apply BitVec.eq_of_toNat_eq
  have h2 : (Int32.toBitVec 1).toNat = 1 := by decide
  have h3 : (Int32.toBitVec 2).toNat = 2 := by decide
  rw [BitVec.toNat_add, BitVec.toNat_sub, BitVec.toNat_sub, BitVec.toNat_add, BitVec.toNat_add, h2, h3]
  omega
theorem bs_up {n : Nat} {D : Nat → Nat} {kp : Nat → Nat → Nat → Nat} {l : List Nat} {h s : Nat} : (nI (2 * bsc n D kp l h) - nI l.length) + (if dk_bu n (cuD D s.testBit) kp h 50 = 0 then (-1 : Int32) else 1) = nI (2 * bsc n D kp (l ++ [s]) h) - nI (l ++ [s]).length := by
  rw [bsc_snoc, List.length_append]
  by_cases z : dk_bu n (cuD D s.testBit) kp h 50 = 0
  · rw [if_pos z, i_m1, if_neg (by unfold bsp; rw [decide_eq_true_eq]; exact not_not_intro z), nI_1]; rfl
  · rw [if_neg z, i_p1, if_pos (by unfold bsp; rw [decide_eq_true_eq]; exact z), nI_1]
    have : nI (2 * bsc n D kp l h) + (2 : Int32) = nI (2 * (bsc n D kp l h + 1)) := n_add (2 * bsc n D kp l h) 2
    rw [this]; rfl
theorem good_best {j : Nat} {σ τ : ax_S} (h : RR j σ τ) (a0 : Int32) : good j mX11_best mX12_best [ax_i a0] σ τ := by
  obtain ⟨n, E, D, dry, lw, ho, L, nc, no, hb, hlg, hlw, hnt, hC, hM, hlC, hlM, hnC, hnM, hnext⟩ := h.sets
  have hn := hb.2.1
  have h84 := hb.2.2.2.1
  have hpb := pow_b h84
  have hkp := kpf_le E D dry ho L
  have zC := hb_C hC.1 hn
  have aM := are_M hM.1 hn a0
  by_cases g : ¬ n = 0 ∧ ∃ k, k ≤ 2 ∧ a0 = nI k
  · have g2 := aM.mpr g
    obtain ⟨hn0, k, hk, rfl⟩ := g
    have hlen := soL_l (n := n) (D := D) (kp := kpf E D dry ho L) (nc := nc) (no := no) hk
    have q1 : ¬ σ.1 5 9 ≤ 0 := fun q => hn0 (zC.mp q)
    have q3 := (are_C (nI k)).mpr ⟨k, hk, rfl⟩
    refine ⟨if (soL n D (kpf E D dry ho L) nc no k).length = 0 then -1 else nI (bsR (bap n D (kpf E D dry ho L) (soL n D (kpf E D dry ho L) nc no k)) n), fun u => fo scC u σ, fun w => KS τ D w, ?_, ?_, hnext⟩
    · refine ax_Ct.of (lv := [some (ax_r 0), some (ax_i (nI k)), none, none, none, none]) (by decide +kernel) (fun ad => Nat.le_of_ble_eq_true rfl) (fun ad => rfl) ?_
      refine s_X11_best_0 (d := 59) (by omega) σ _ (fun c => absurd q1 c) (fun _ c => absurd c q3.1) (fun _ _ _ => ?_) (fun _ _ c => absurd q3.2 c)
      refine (ct_X11_gatherFitting (by omega) hb hC hlw hlC hnt hnC hk).mono ?_
      rintro r u ⟨rfl, u1, u2⟩
      generalize hgl : soL n D (kpf E D dry ho L) nc no k = l at *
      have e0 : u.1 11 1 = 0 ↔ l.length = 0 := by rw [u2.1]; exact n_eq _ 0
      refine ⟨rfl, s_X11_best_23 (by omega) u (fun c => ?_) (fun c => ⟨?_, u1⟩)⟩
      · have c2 : ¬ l.length = 0 := fun z => c (e0.mpr z)
        rw [if_neg c2, u2.1, nI_1]
        have abs : ∀ h, (if (0 : Int32) ≤ ((2 : Int32) * nI (bsc n D (kpf E D dry ho L) l h) - nI l.length) then ((2 : Int32) * nI (bsc n D (kpf E D dry ho L) l h) - nI l.length) else 0 - ((2 : Int32) * nI (bsc n D (kpf E D dry ho L) l h) - nI l.length)) = nI (bap n D (kpf E D dry ho L) l h) := fun h => by
          have := bsc_le n D (kpf E D dry ho L) l h
          have e : (2 : Int32) * nI (bsc n D (kpf E D dry ho L) l h) = nI (2 * bsc n D (kpf E D dry ho L) l h) := n_mul 2 _
          rw [e, dst_abs (by omega) (by omega)]; rfl
        have loop := lp_up (m := n) (P := fun h => 1 ≤ h → ∀ t, fo scr t u → ax_W shC (59 + 1) mX11_best (fun r w => r = some (ax_i (nI (bsR (bap n D (kpf E D dry ho L) l) n))) ∧ fo scC w σ) 50 [some (ax_r 0), none, some (ax_i (nI (bap n D (kpf E D dry ho L) l (bsR (bap n D (kpf E D dry ho L) l) h)))), some (ax_i (nI (bsR (bap n D (kpf E D dry ho L) l) h))), some (ax_i (nI h)), none] [] t) ?_ ?_
        · -- the first house
          have g9 : ¬ u.1 5 9 ≤ nI 0 := by rw [(sc_C hC u1).1]; exact fun z => absurd ((n_le _ _).mp z) (by omega)
          refine s_X11_best_50 (by omega) u _ _ _ (fun c => absurd c g9) (fun _ => ?_)
          refine (ct_X11_burningSets (by omega) hb hC hlw hlC u1 hlen u2 (show 0 < n by omega)).mono ?_
          rintro r w ⟨rfl, w1⟩
          have w11 : w.1 11 1 = nI l.length := by rw [w1.1 11 1 (by unfold scr; omega)]; exact u2.1
          have hb0 := bap_le n D (kpf E D dry ho L) l 0
          refine ⟨_, rfl, s_X11_best_69 (by omega) w _ _ _ _ _ (fun c => ?_) (fun _ => ?_)⟩
          · rw [w11, abs 0] at c
            exact absurd ((n_le _ _).mp c) (by omega)
          · have := loop 1 (by omega) (by omega) w w1
            rw [bsR_1] at this
            have e01 : (0 : Int32) + 1 = nI 1 := by decide
            rw [w11, abs 0, e01]; exact this
        · intro h1 t ht
          have ft : fo scC t σ := (ht.mono scr_scC).trans u1
          have g9 : t.1 5 9 ≤ nI n := by rw [(sc_C hC ft).1]; exact (n_le _ _).mpr (Nat.le_refl _)
          exact s_X11_best_50 (by omega) t _ _ _ (fun _ => ⟨rfl, ft⟩) (fun c => absurd g9 c)
        · intro h hh ih h1 t ht
          have ft : fo scC t σ := (ht.mono scr_scC).trans u1
          have htl : hl t l := u2.to ht.1 (fun c i hs => by unfold scr at hs; omega)
          have g9 : ¬ t.1 5 9 ≤ nI h := by rw [(sc_C hC ft).1]; exact fun z => absurd ((n_le _ _).mp z) (by omega)
          refine s_X11_best_50 (by omega) t _ _ _ (fun c => absurd c g9) (fun _ => ?_)
          refine (ct_X11_burningSets (by omega) hb hC hlw hlC ft hlen htl hh).mono ?_
          rintro r w ⟨rfl, w1⟩
          have w11 : w.1 11 1 = nI l.length := by rw [w1.1 11 1 (by unfold scr; omega)]; exact htl.1
          have hbh := bap_le n D (kpf E D dry ho L) l h
          have hbb := bap_le n D (kpf E D dry ho L) l (bsR (bap n D (kpf E D dry ho L) l) h)
          have := ih (by omega) w (w1.trans ht)
          refine ⟨_, rfl, s_X11_best_69 (by omega) w _ _ _ _ _ (fun c => ?_) (fun c => ?_)⟩
          · rw [w11, abs h] at c
            have c3 := (n_le _ _).mp c
            rw [bsR, if_neg (by omega)] at this
            rw [nI_1]; exact this
          · rw [w11, abs h] at c
            have c3 : bap n D (kpf E D dry ho L) l h < bap n D (kpf E D dry ho L) l (bsR (bap n D (kpf E D dry ho L) l) h) := Nat.not_le.mp (fun q => c ((n_le _ _).mpr q))
            rw [bsR, if_pos c3] at this
            rw [w11, abs h, nI_1]; exact this
      · rw [if_pos (e0.mp (Classical.not_not.mp c))]
    · refine ax_Ct.of (lv := [some (ax_r 0), some (ax_i (nI k)), none, none, none]) (by decide +kernel) (fun ad => Nat.le_of_ble_eq_true rfl) (fun ad => rfl) ?_
      refine s_X12_best_0 (d := 59) (by omega) τ _ (fun _ => ?_) (fun c => absurd g2 c)
      generalize hgl : soL n D (kpf E D dry ho L) nc no k = l0 at *
      -- the last loop: the least
      have last : ∀ u, KS τ D u → (∀ h, h < n → u.1 27 h = nI (2 * bsc n D (kpf E D dry ho L) l0 h) - nI l0.length) → ax_W shM (59 + 1) mX12_best (fun r w => r = some (ax_i (if l0.length = 0 then -1 else nI (bsR (bap n D (kpf E D dry ho L) l0) n))) ∧ KS τ D w) 126 [some (ax_r 0), none, some (ax_i (if l0.length = 0 then 0 else 1)), some (ax_i 0), some (ax_i 1)] [] u := by
        intro u hu h27
        have abs : ∀ h, h < n → (if (0 : Int32) ≤ u.1 27 h then u.1 27 h else 0 - u.1 27 h) = nI (bap n D (kpf E D dry ho L) l0 h) := fun h hh => by
          have := bsc_le n D (kpf E D dry ho L) l0 h
          rw [h27 h hh, dst_abs (by omega) (by omega)]; rfl
        have e23 := hu.h23 hM.1
        have loop := lp_up (m := n) (P := fun h => 1 ≤ h → ax_W shM (59 + 1) mX12_best (fun r w => r = some (ax_i (if l0.length = 0 then -1 else nI (bsR (bap n D (kpf E D dry ho L) l0) n))) ∧ KS τ D w) 126 [some (ax_r 0), none, some (ax_i (if l0.length = 0 then 0 else 1)), some (ax_i (nI (bsR (bap n D (kpf E D dry ho L) l0) h))), some (ax_i (nI h))] [] u) ?_ ?_
        · have := loop 1 (by omega) (by omega)
          rw [bsR_1] at this; exact this
        · intro _
          have g9 : u.1 0 23 ≤ nI n := by rw [e23]; exact (n_le _ _).mpr (Nat.le_refl _)
          refine s_X12_best_126 (by omega) u _ _ _ (fun _ => ⟨?_, hu⟩) (fun c => absurd g9 c) (fun c => absurd g9 c) (fun c => absurd g9 c)
          by_cases z : l0.length = 0
          · rw [if_pos z, if_pos z, if_pos rfl]
          · rw [if_neg z, if_neg z, if_neg (by decide)]
        · intro h hh ih h1
          have g9 : ¬ u.1 0 23 ≤ nI h := by rw [e23]; exact fun z => absurd ((n_le _ _).mp z) (by omega)
          have hbi := bsR_in (bap n D (kpf E D dry ho L) l0) h h1
          have hbh := bap_le n D (kpf E D dry ho L) l0 h
          have hbb := bap_le n D (kpf E D dry ho L) l0 (bsR (bap n D (kpf E D dry ho L) l0) h)
          refine s_X12_best_126 (by omega) u _ _ _ (fun c => absurd c g9) (fun _ => n_in _ _) (fun _ => n_in _ _) (fun _ => ?_)
          rw [n_tn h, n_tn (bsR (bap n D (kpf E D dry ho L) l0) h), abs h hh, abs _ (by omega), nI_1]
          have := ih (by omega)
          rw [bsR] at this
          by_cases z : bap n D (kpf E D dry ho L) l0 h < bap n D (kpf E D dry ho L) l0 (bsR (bap n D (kpf E D dry ho L) l0) h)
          · rw [if_pos z] at this
            rw [if_neg (fun q => absurd ((n_le _ _).mp q) (by omega))]; exact this
          · rw [if_neg z] at this
            rw [if_pos ((n_le _ _).mpr (by omega))]; exact this
      -- the sets
      have mid : ∀ f t l u, t + f = 2 ^ D 84 → KS τ D u → l ++ (List.range' t f).filter (fun s => sok n D (kpf E D dry ho L) nc no s && gq (dk_lv D) k s) = l0 → (∀ h, h < n → u.1 27 h = nI (2 * bsc n D (kpf E D dry ho L) l h) - nI l.length) → ax_W shM (59 + 1) mX12_best (fun r w => r = some (ax_i (if l0.length = 0 then -1 else nI (bsR (bap n D (kpf E D dry ho L) l0) n))) ∧ KS τ D w) 35 [some (ax_r 0), some (ax_i (nI k)), some (ax_i (if l.length = 0 then 0 else 1)), some (ax_i (nI t)), none] [] u := by
        intro f
        induction f with
        | zero =>
          intro t l u ht hu hl0 h27
          have e84 : u.1 15 84 = nI (D 84) := hu.2 84 (by omega)
          have g : ((1 : Int32) <<< ((u.1 15 84) &&& 31)) ≤ nI t := by rw [e84, n_pow h84]; exact (n_le _ _).mpr (by omega)
          have el : l = l0 := by rw [← hl0]; exact (List.append_nil l).symm
          subst el
          exact s_X12_best_35 (by omega) u _ _ _ (fun _ => last u hu h27) (fun c => absurd g c)
        | succ f ih =>
          intro t l u ht hu hl0 h27
          have e84 : u.1 15 84 = nI (D 84) := hu.2 84 (by omega)
          have g : ¬ ((1 : Int32) <<< ((u.1 15 84) &&& 31)) ≤ nI t := by rw [e84, n_pow h84]; exact fun z => absurd ((n_le _ _).mp z) (by omega)
          have htp : t < 2 ^ D 84 := by omega
          refine s_X12_best_35 (by omega) u _ _ _ (fun c => absurd c g) (fun _ => ?_)
          refine (ct_X12_isSo (by omega) hb hM hlw hlM hnt hnM hu hk htp).mono ?_
          rintro r w ⟨rfl, w1, w27⟩
          refine ⟨_, rfl, ?_⟩
          rw [range_s] at hl0
          cases hq : sok n D (kpf E D dry ho L) nc no t && gq (dk_lv D) k t
          · rw [hq, if_neg (by decide)] at hl0
            refine s_X12_best_54 (by omega) w _ _ _ _ (fun _ => ?_) (fun c => absurd rfl c)
            rw [nI_1]
            exact ih (t + 1) l w (by omega) w1 hl0 (fun h hh => by rw [w27]; exact h27 h hh)
          · rw [hq, if_pos rfl] at hl0
            rw [Bool.and_eq_true] at hq
            have q2 : gsub (dk_lv D) t 17 = true := by
              have := hq.2
              unfold gq at this
              rw [Bool.and_eq_true] at this; exact this.2
            have h0 : ∀ i, i < D 84 → t.testBit i = true → bk_w D i 3 = 0 := fun i hi ht => by
              have := (gsub_iff (dk_lv D) t 17).mp q2 i (by omega) ht
              unfold dk_lv bk_lv at this
              rw [Bool.and_eq_true, Bool.and_eq_true, decide_eq_true_eq, decide_eq_true_eq] at this; exact this.2.1
            refine s_X12_best_54 (by omega) w _ _ _ _ (fun c => absurd c (by decide)) (fun _ => ?_)
            refine (ct_X12_cut1 (by omega) h84 w1 htp).mono ?_
            rintro r y ⟨rfl, y1, yf⟩
            have y27 : ∀ h, h < n → y.1 27 h = nI (2 * bsc n D (kpf E D dry ho L) l h) - nI l.length := fun h hh => by rw [yf.1 27 h (by omega), w27]; exact h27 h hh
            refine ⟨rfl, s_X12_best_65 (by omega) y _ _ _ ?_⟩
            have inner := lp_up (m := n) (P := fun h => ∀ z, KS τ (cuD D t.testBit) z → (∀ i, i < n → z.1 27 i = if i < h then nI (2 * bsc n D (kpf E D dry ho L) (l ++ [t]) i) - nI (l ++ [t]).length else nI (2 * bsc n D (kpf E D dry ho L) l i) - nI l.length) → ax_W shM (59 + 1) mX12_best (fun r w => r = some (ax_i (if l0.length = 0 then -1 else nI (bsR (bap n D (kpf E D dry ho L) l0) n))) ∧ KS τ D w) 68 [some (ax_r 0), some (ax_i (nI k)), some (ax_i 1), some (ax_i (nI t)), some (ax_i (nI h))] [] z) ?_ ?_
            · refine inner 0 (by omega) y y1 (fun i hi => ?_)
              rw [if_neg (by omega)]; exact y27 i hi
            · intro z z1 z27
              have g9 : z.1 0 23 ≤ nI n := by rw [z1.h23 hM.1]; exact (n_le _ _).mpr (Nat.le_refl _)
              refine s_X12_best_68 (by omega) z _ _ _ _ (fun _ => ?_) (fun c => absurd g9 c) (fun c => absurd g9 c)
              refine (ct_X12_cut0 (by omega) h84 z1 h0 htp).mono ?_
              rintro r x ⟨rfl, x1, xf⟩
              refine ⟨rfl, s_X12_best_115 (by omega) x _ _ _ ?_⟩
              rw [nI_1]
              have := ih (t + 1) (l ++ [t]) x (by omega) x1 (by rw [← hl0, List.append_assoc]; rfl) (fun h hh => by rw [xf.1 27 h (by omega), z27 h hh, if_pos hh])
              have e1 : (if (l ++ [t]).length = 0 then (0 : Int32) else 1) = 1 := if_neg (by rw [List.length_append]; show ¬ l.length + 1 = 0; omega)
              rw [e1] at this; exact this
            · intro h hh ih2 z z1 z27
              have g9 : ¬ z.1 0 23 ≤ nI h := by rw [z1.h23 hM.1]; exact fun q => absurd ((n_le _ _).mp q) (by omega)
              refine s_X12_best_68 (by omega) z _ _ _ _ (fun c => absurd c g9) (fun _ => n_in _ _) (fun _ => ?_)
              refine (fl_M (by omega) (cu_ok hb _ hkp) (z1.h23 hM.1) z1.2 (z1.K hb hlw hlM hM (fun h hh => cuD_out (by omega))) fo.rfl' hh (show 1 ≤ 50 by omega) (show 50 ≤ 999 by omega)).mono ?_
              rintro r x ⟨rfl, x1⟩
              have kx := z1.st x1
              refine ⟨_, rfl, s_X12_best_93 (by omega) x _ _ _ _ _ _ _ (n_in _ _) ?_⟩
              rw [n_tn h, z27 h hh, if_neg (show ¬ h < h by omega), bs_up, nI_1]
              refine ih2 _ ⟨kx.1.ui (by unfold scK scM; omega), kx.2.to (fo.rfl'.ui (S := fun c _ => c = 27) rfl) (by omega)⟩ (fun i hi => ?_)
              by_cases e : i = h
              · rw [e, ui_same, if_pos (by omega)]
              · rw [ui_idx e, x1.1 27 i (by unfold scm; omega), z27 i hi]
                by_cases q : i < h
                · rw [if_pos q, if_pos (by omega)]
                · rw [if_neg q, if_neg (by omega)]
      have first := lp_up (m := 8) (P := fun h => ∀ u, KS τ D u → (∀ i, i < h → u.1 27 i = 0) → ax_W shM (59 + 1) mX12_best (fun r w => r = some (ax_i (if l0.length = 0 then -1 else nI (bsR (bap n D (kpf E D dry ho L) l0) n))) ∧ KS τ D w) 14 [some (ax_r 0), some (ax_i (nI k)), some (ax_i 0), some (ax_i (nI h)), none] [] u) ?_ ?_
      · exact first 0 (by omega) τ ⟨fo.rfl', hM.2.2.1⟩ (fun i hi => absurd hi (by omega))
      · intro u hu h27
        refine s_X12_best_14 (by omega) u _ _ _ (fun _ => ?_) (fun c => absurd ((n_le 8 8).mpr (by omega)) c) (fun c => absurd ((n_le 8 8).mpr (by omega)) c)
        have := mid (2 ^ D 84) 0 [] u (by omega) hu (by rw [List.nil_append, ← hgl]; exact so_ref h84) (fun h hh => by rw [h27 h (by omega)]; show (0 : Int32) = nI 0 - nI 0; decide)
        exact this
      · intro h hh ih u hu h27
        refine s_X12_best_14 (by omega) u _ _ _ (fun c => absurd ((n_le 8 h).mp c) (by omega)) (fun _ => n_in _ _) (fun _ => ?_)
        rw [n_tn h, nI_1]
        refine ih _ ⟨hu.1.ui (by unfold scK scM; omega), hu.2.to (fo.rfl'.ui (S := fun c _ => c = 27) rfl) (by omega)⟩ (fun i hi => ?_)
        by_cases e : i = h
        · rw [e, ui_same]
        · rw [ui_idx e]; exact h27 i (by omega)
  · refine good.ask h (-1) ?_ ?_
    · refine ax_Ct.of (lv := [some (ax_r 0), some (ax_i a0), none, none, none, none]) (by decide +kernel) (fun ad => Nat.le_of_ble_eq_true rfl) (fun ad => rfl) ?_
      exact s_X11_best_0 (d := 59) (by omega) σ _ (fun _ => ⟨rfl, fo.rfl'⟩) (fun _ _ => ⟨rfl, fo.rfl'⟩) (fun c1 c2 c3 => absurd ⟨fun q => c1 (zC.mpr q), (are_C a0).mp ⟨c2, c3⟩⟩ g) (fun _ _ _ => ⟨rfl, fo.rfl'⟩)
    · refine ax_Ct.of (lv := [some (ax_r 0), some (ax_i a0), none, none, none]) (by decide +kernel) (fun ad => Nat.le_of_ble_eq_true rfl) (fun ad => rfl) ?_
      exact s_X12_best_0 (d := 59) (by omega) τ _ (fun c1 => absurd (aM.mp c1) g) (fun _ => ⟨rfl, fo.rfl'⟩)
