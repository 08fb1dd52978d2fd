/-! ===== WHO, SURE, BEST ===== -/
def whA (a : Int32) : Nat → List Nat → Int32
  | c, [] => if ¬ a = -1 then -1 else nI c
  | c, s :: l => if nI c = a then nI s else whA a (c + 1) l
theorem whA_m1 : ∀ (l : List Nat) (c : Nat), c + l.length < 2147483648 → whA (-1) c l = nI (c + l.length)
  | [], c, _ => by rw [whA, if_neg (by decide)]; rfl
  | s :: l, c, h => by
    rw [List.length_cons] at h
    rw [whA, if_neg (n_m1 c), whA_m1 l (c + 1) (by omega), List.length_cons]; congr 1; omega
theorem whA_n {i : Nat} (hi : i < 2147483648) : ∀ (l : List Nat) (c : Nat), c ≤ i → whA (nI i) c l = (match l[i - c]? with | some s => nI s | none => -1)
  | [], c, _ => by rw [whA, if_pos (n_m1 i), List.getElem?_nil]
  | s :: l, c, h => by
    rw [whA]
    by_cases e : c = i
    · subst e
      rw [if_pos rfl, Nat.sub_self, List.getElem?_cons_zero]
    · rw [if_neg (fun z => e ((n_eq c i).mp z)), whA_n hi l (c + 1) (by omega), show i - c = (i - (c + 1)) + 1 by omega, List.getElem?_cons_succ]
theorem so_ref {n : Nat} {D : Nat → Nat} {kp : Nat → Nat → Nat → Nat} {nc : Nat} {no : Nat → Nat} {k : Nat} (h84 : D 84 ≤ 16) : (List.range' 0 (2 ^ D 84)).filter (fun s => sok n D kp nc no s && gq (dk_lv D) k s) = soL n D kp nc no k := by
  unfold soL
  rw [← gs_ref h84 dk_lv_out, List.filter_filter]
theorem are_C (x : Int32) : (¬ x < 0 ∧ x ≤ (2 : Int32)) ↔ ∃ k, k ≤ 2 ∧ x = nI k := by
  constructor
  · rintro ⟨q1, q2⟩
    obtain ⟨k, hk, rfl⟩ := nI_of q1
    exact ⟨k, (n_le k 2).mp q2, rfl⟩
  · rintro ⟨k, q1, rfl⟩
    exact ⟨n_nn k, (n_le k 2).mpr q1⟩
theorem are_M {τ : ax_S} {n : Nat} (h : τ.1 0 23 = nI n) (hn : n ≤ 8) (x : Int32) : (¬ τ.1 0 23 ≤ 0 ∧ ¬ x < (0 : Int32) ∧ ¬ (2 : Int32) < x) ↔ ¬ n = 0 ∧ ∃ k, k ≤ 2 ∧ x = nI k := by
  have h1 : (¬ τ.1 0 23 ≤ 0) ↔ ¬ n = 0 := by rw [h]; exact not_congr ((n_le n 0).trans (by omega))
  have h2 := in_R x 0 2
  rw [h1]
  refine and_congr Iff.rfl (h2.trans ⟨?_, ?_⟩)
  · rintro ⟨k, -, q, e⟩; exact ⟨k, q, e⟩
  · rintro ⟨k, q, e⟩; exact ⟨k, by omega, q, e⟩
theorem good_who {j : Nat} {σ τ : ax_S} (h : RR j σ τ) (a0 a1 : Int32) : good j mX11_who mX12_who [ax_i a0, ax_i a1] σ τ := by
  obtain ⟨n, E, D, dry, lw, ho, L, nc, no, hb, hlg, hlw, hnt, hC, hM, hlC, hlM, hnC, hnM, hnext⟩ := h.sets
  have hn := hb.2.1
  have h84 := hb.2.2.2.1
  have hpb := pow_b h84
  have zC := hb_C hC.1 hn
  have aM := are_M hM.1 hn a0
  have eM1 : Int32.toInt (-1) = -1 := by decide
  by_cases g : (¬ n = 0 ∧ ∃ k, k ≤ 2 ∧ a0 = nI k) ∧ (-1 : Int32) ≤ a1
  · have g2 := aM.mpr g.1
    obtain ⟨⟨hn0, k, hk, rfl⟩, ga⟩ := g
    have hlen := soL_l (n := n) (D := D) (kp := kpf E D dry ho L) (nc := nc) (no := no) hk
    have q1 : ¬ σ.1 5 9 ≤ 0 := fun q => hn0 (zC.mp q)
    have q3 := (are_C (nI k)).mpr ⟨k, hk, rfl⟩
    refine ⟨whA a1 0 (soL n D (kpf E D dry ho L) nc no k), fun u => fo scC u σ, fun w => KS τ D w, ?_, ?_, hnext⟩
    · refine ax_Ct.of (lv := [some (ax_r 0), some (ax_i (nI k)), some (ax_i a1)]) (by decide +kernel) (fun ad => Nat.le_of_ble_eq_true rfl) (fun ad => rfl) ?_
      refine s_X11_who_0 (d := 59) (by omega) σ _ _ (fun c => absurd q1 c) (fun _ c => absurd c q3.1) (fun _ _ _ => ?_) (fun _ _ c => absurd q3.2 c)
      refine (ct_X11_gatherFitting (by omega) hb hC hlw hlC hnt hnC hk).mono ?_
      rintro r u ⟨rfl, u1, u2⟩
      refine ⟨rfl, s_X11_who_23 (by omega) u _ (fun _ c1 c2 => ?_) (fun c => ⟨?_, u1⟩) (fun c => ⟨?_, u1⟩)⟩
      · rw [u2.1] at c2
        obtain ⟨i, hi, rfl⟩ := nI_of c1
        exact n_in i 120 (by have := (n_lt i _ (by omega) (by omega)).mp c2; omega)
      · have h0 : ¬ a1 < 0 := fun z => c (by
          rw [fa_lt] at z; rw [fa_le, eM1] at ga
          have : Int32.toInt 0 = 0 := by decide
          rw [fa_eq, eM1]; omega)
        obtain ⟨i, hi, rfl⟩ := nI_of h0
        rw [if_neg h0, u2.1, whA_n hi _ 0 (by omega), Nat.sub_zero, n_tn i]
        by_cases z : i < (soL n D (kpf E D dry ho L) nc no k).length
        · rw [if_pos ((n_lt _ _).mpr z), List.getElem?_eq_getElem z, u2.2 i _ (List.getElem?_eq_getElem z)]
        · rw [if_neg (fun q => z ((n_lt _ _).mp q)), List.getElem?_eq_none (by omega)]
      · rw [Classical.not_not.mp c, whA_m1 _ 0 (by omega), u2.1, Nat.zero_add]
    · refine ax_Ct.of (lv := [some (ax_r 0), some (ax_i (nI k)), some (ax_i a1), none, none]) (by decide +kernel) (fun ad => Nat.le_of_ble_eq_true rfl) (fun ad => rfl) ?_
      refine s_X12_who_0 (d := 59) (by omega) τ _ _ (fun c => absurd g2 c) (fun _ _ => ?_) (fun _ c => absurd ga c)
      have loop : ∀ f t c u, t + f = 2 ^ D 84 → c ≤ t → KS τ D u → ax_W shM (59 + 1) mX12_who (fun r w => r = some (ax_i (whA a1 c ((List.range' t f).filter (fun s => sok n D (kpf E D dry ho L) nc no s && gq (dk_lv D) k s)))) ∧ KS τ D w) 20 [some (ax_r 0), some (ax_i (nI k)), some (ax_i a1), some (ax_i (nI c)), some (ax_i (nI t))] [] u := by
        intro f
        induction f with
        | zero =>
          intro t c u ht hc hu
          have e84 : u.1 15 84 = nI (D 84) := hu.2 84 (by omega)
          have g : ((1 : Int32) <<< ((u.1 15 84) &&& 31)) ≤ nI t := by rw [e84, n_pow h84]; exact (n_le _ _).mpr (by omega)
          exact s_X12_who_20 (by omega) u _ _ _ _ (fun _ => ⟨rfl, hu⟩) (fun c => absurd g c)
        | succ f ih =>
          intro t c u ht hc hu
          have e84 : u.1 15 84 = nI (D 84) := hu.2 84 (by omega)
          have g : ¬ ((1 : Int32) <<< ((u.1 15 84) &&& 31)) ≤ nI t := by rw [e84, n_pow h84]; exact fun z => absurd ((n_le _ _).mp z) (by omega)
          refine s_X12_who_20 (by omega) u _ _ _ _ (fun c => absurd c g) (fun _ => ?_)
          refine (ct_X12_isSo (by omega) hb hM hlw hlM hnt hnM hu hk (show t < 2 ^ D 84 by omega)).mono ?_
          rintro r w ⟨rfl, w1, -⟩
          refine ⟨_, rfl, ?_⟩
          rw [range_s]
          cases hq : sok n D (kpf E D dry ho L) nc no t && gq (dk_lv D) k t
          · refine s_X12_who_41 (by omega) w _ _ _ _ _ (fun _ => ?_) (fun c => absurd rfl c) (fun c => absurd rfl c)
            rw [nI_1]
            exact ih (t + 1) c w (by omega) (by omega) w1
          · refine s_X12_who_41 (by omega) w _ _ _ _ _ (fun c => absurd c (by decide)) (fun _ c2 => ?_) (fun _ c2 => ⟨?_, w1⟩)
            · rw [if_pos rfl, whA, if_neg c2, nI_1, nI_1]
              exact ih (t + 1) (c + 1) w (by omega) (by omega) w1
            · rw [if_pos rfl, whA, if_pos (Classical.not_not.mp c2)]
      have := loop (2 ^ D 84) 0 0 τ (by omega) (by omega) ⟨fo.rfl', hM.2.2.1⟩
      rw [so_ref h84] at this; exact this
  · refine good.ask h (-1) ?_ ?_
    · by_cases g3 : ¬ n = 0 ∧ ∃ k, k ≤ 2 ∧ a0 = nI k
      · obtain ⟨hn0, k, hk, rfl⟩ := g3
        have ga : ¬ (-1 : Int32) ≤ a1 := fun z => g ⟨⟨hn0, k, hk, rfl⟩, z⟩
        have q1 : ¬ σ.1 5 9 ≤ 0 := fun q => hn0 (zC.mp q)
        have q3 := (are_C (nI k)).mpr ⟨k, hk, rfl⟩
        refine ax_Ct.of (lv := [some (ax_r 0), some (ax_i (nI k)), some (ax_i a1)]) (by decide +kernel) (fun ad => Nat.le_of_ble_eq_true rfl) (fun ad => rfl) ?_
        refine s_X11_who_0 (d := 59) (by omega) σ _ _ (fun c => absurd q1 c) (fun _ c => absurd c q3.1) (fun _ _ _ => ?_) (fun _ _ c => absurd q3.2 c)
        refine (ct_X11_gatherFitting (by omega) hb hC hlw hlC hnt hnC hk).mono ?_
        rintro r u ⟨rfl, u1, u2⟩
        have h0 : a1 < 0 := by
          rw [fa_le, eM1] at ga; rw [fa_lt]
          have : Int32.toInt 0 = 0 := by decide
          omega
        refine ⟨rfl, s_X11_who_23 (by omega) u _ (fun _ c1 _ => absurd h0 c1) (fun c => ⟨by rw [if_pos h0], u1⟩) (fun c => absurd ?_ ga)⟩
        rw [Classical.not_not.mp c]; decide
      · refine ax_Ct.of (lv := [some (ax_r 0), some (ax_i a0), some (ax_i a1)]) (by decide +kernel) (fun ad => Nat.le_of_ble_eq_true rfl) (fun ad => rfl) ?_
        exact s_X11_who_0 (d := 59) (by omega) σ _ _ (fun _ => ⟨rfl, fo.rfl'⟩) (fun _ _ => ⟨rfl, fo.rfl'⟩) (fun c1 c2 c3 => absurd ⟨fun q => c1 (zC.mpr q), (are_C a0).mp ⟨c2, c3⟩⟩ g3) (fun _ _ _ => ⟨rfl, fo.rfl'⟩)
    · refine ax_Ct.of (lv := [some (ax_r 0), some (ax_i a0), some (ax_i a1), none, none]) (by decide +kernel) (fun ad => Nat.le_of_ble_eq_true rfl) (fun ad => rfl) ?_
      exact s_X12_who_0 (d := 59) (by omega) τ _ _ (fun _ => ⟨rfl, fo.rfl'⟩) (fun c1 c2 => absurd ⟨aM.mp c1, c2⟩ g) (fun _ _ => ⟨rfl, fo.rfl'⟩)
theorem and_m1 (x : Int32) : x &&& (-1 : Int32) = x := b_ext fun i hi => by rw [b_and, b_m1 i hi, Bool.and_true]
theorem good_sure {j : Nat} {σ τ : ax_S} (h : RR j σ τ) (a0 : Int32) : good j mX11_sure mX12_sure [ax_i a0] σ τ := by
  obtain ⟨n, E, D, dry, lw, ho, L, nc, no, hb, hlg, hlw, hnt, hC, hM, hlC, hlM, hnC, hnM, hnext⟩ := h.sets
  have hn := hb.2.1
  have h84 := hb.2.2.2.1
  have hpb := pow_b h84
  have zC := hb_C hC.1 hn
  have aM := are_M hM.1 hn a0
  by_cases g : ¬ n = 0 ∧ ∃ k, k ≤ 2 ∧ a0 = nI k
  · have g2 := aM.mpr g
    obtain ⟨hn0, k, hk, rfl⟩ := g
    have hlen := soL_l (n := n) (D := D) (kp := kpf E D dry ho L) (nc := nc) (no := no) hk
    have q1 : ¬ σ.1 5 9 ≤ 0 := fun q => hn0 (zC.mp q)
    have q3 := (are_C (nI k)).mpr ⟨k, hk, rfl⟩
    refine ⟨(soL n D (kpf E D dry ho L) nc no k).foldl (fun x s => x &&& nI s) (-1), fun u => fo scC u σ, fun w => KS τ D w, ?_, ?_, hnext⟩
    · refine ax_Ct.of (lv := [some (ax_r 0), some (ax_i (nI k)), none, none]) (by decide +kernel) (fun ad => Nat.le_of_ble_eq_true rfl) (fun ad => rfl) ?_
      refine s_X11_sure_0 (d := 59) (by omega) σ _ (fun c => absurd q1 c) (fun _ c => absurd c q3.1) (fun _ _ _ => ?_) (fun _ _ c => absurd q3.2 c)
      refine (ct_X11_gatherFitting (by omega) hb hC hlw hlC hnt hnC hk).mono ?_
      rintro r u ⟨rfl, u1, u2⟩
      refine ⟨rfl, s_X11_sure_23 (by omega) u ?_⟩
      generalize soL n D (kpf E D dry ho L) nc no k = l at *
      have loop : ∀ f i x, i + f = l.length → ax_W shC (59 + 1) mX11_sure (fun r w => r = some (ax_i ((l.drop i).foldl (fun x s => x &&& nI s) x)) ∧ fo scC w σ) 27 [some (ax_r 0), none, some (ax_i x), some (ax_i (nI i))] [] u := by
        intro f
        induction f with
        | zero =>
          intro i x hi
          have g : u.1 11 1 ≤ nI i := by rw [u2.1]; exact (n_le _ _).mpr (by omega)
          refine s_X11_sure_27 (by omega) u _ _ (fun _ => ⟨?_, u1⟩) (fun c => absurd g c) (fun c => absurd g c)
          rw [List.drop_of_length_le (by omega)]; rfl
        | succ f ih =>
          intro i x hi
          have g : ¬ u.1 11 1 ≤ nI i := by rw [u2.1]; exact fun z => absurd ((n_le _ _).mp z) (by omega)
          have hil : i < l.length := by omega
          refine s_X11_sure_27 (by omega) u _ _ (fun c => absurd c g) (fun _ => n_in _ _) (fun _ => ?_)
          rw [n_tn i, u2.2 i _ (List.getElem?_eq_getElem hil), nI_1, List.drop_eq_getElem_cons hil, List.foldl_cons]
          exact ih (i + 1) _ (by omega)
      exact loop l.length 0 (-1) (by omega)
    · refine ax_Ct.of (lv := [some (ax_r 0), some (ax_i (nI k)), none, none]) (by decide +kernel) (fun ad => Nat.le_of_ble_eq_true rfl) (fun ad => rfl) ?_
      refine s_X12_sure_0 (d := 59) (by omega) τ _ (fun _ => ?_) (fun c => absurd g2 c)
      have loop : ∀ f t x u, t + f = 2 ^ D 84 → KS τ D u → ax_W shM (59 + 1) mX12_sure (fun r w => r = some (ax_i (((List.range' t f).filter (fun s => sok n D (kpf E D dry ho L) nc no s && gq (dk_lv D) k s)).foldl (fun x s => x &&& nI s) x)) ∧ KS τ D w) 14 [some (ax_r 0), some (ax_i (nI k)), some (ax_i x), some (ax_i (nI t))] [] u := by
        intro f
        induction f with
        | zero =>
          intro t x u ht hu
          have e84 : u.1 15 84 = nI (D 84) := hu.2 84 (by omega)
          have g : ((1 : Int32) <<< ((u.1 15 84) &&& 31)) ≤ nI t := by rw [e84, n_pow h84]; exact (n_le _ _).mpr (by omega)
          exact s_X12_sure_14 (by omega) u _ _ _ (fun _ => ⟨rfl, hu⟩) (fun c => absurd g c)
        | succ f ih =>
          intro t x u ht hu
          have e84 : u.1 15 84 = nI (D 84) := hu.2 84 (by omega)
          have g : ¬ ((1 : Int32) <<< ((u.1 15 84) &&& 31)) ≤ nI t := by rw [e84, n_pow h84]; exact fun z => absurd ((n_le _ _).mp z) (by omega)
          refine s_X12_sure_14 (by omega) u _ _ _ (fun c => absurd c g) (fun _ => ?_)
          refine (ct_X12_isSo (by omega) hb hM hlw hlM hnt hnM hu hk (show t < 2 ^ D 84 by omega)).mono ?_
          rintro r w ⟨rfl, w1, -⟩
          refine ⟨_, rfl, s_X12_sure_34 (by omega) w _ _ _ _ ?_⟩
          rw [range_s]
          cases hq : sok n D (kpf E D dry ho L) nc no t && gq (dk_lv D) k t
          · have e0 : (if (if false = true then (1 : Int32) else 0) = 0 then (-1 : Int32) else nI t) = -1 := if_pos rfl
            rw [e0, nI_1, and_m1]
            exact ih (t + 1) x w (by omega) w1
          · have e0 : (if (if true = true then (1 : Int32) else 0) = 0 then (-1 : Int32) else nI t) = nI t := if_neg (by decide)
            rw [e0, nI_1, if_pos rfl, List.foldl_cons]
            exact ih (t + 1) _ w (by omega) w1
      have := loop (2 ^ D 84) 0 (-1) τ (by omega) ⟨fo.rfl', hM.2.2.1⟩
      rw [so_ref h84] at this; exact this
  · refine good.ask h (-1) ?_ ?_
    · refine ax_Ct.of (lv := [some (ax_r 0), some (ax_i a0), none, none]) (by decide +kernel) (fun ad => Nat.le_of_ble_eq_true rfl) (fun ad => rfl) ?_
      exact s_X11_sure_0 (d := 59) (by omega) σ _ (fun _ => ⟨rfl, fo.rfl'⟩) (fun _ _ => ⟨rfl, fo.rfl'⟩) (fun c1 c2 c3 => absurd ⟨fun q => c1 (zC.mpr q), (are_C a0).mp ⟨c2, c3⟩⟩ g) (fun _ _ _ => ⟨rfl, fo.rfl'⟩)
    · refine ax_Ct.of (lv := [some (ax_r 0), some (ax_i a0), none, none]) (by decide +kernel) (fun ad => Nat.le_of_ble_eq_true rfl) (fun ad => rfl) ?_
      exact s_X12_sure_0 (d := 59) (by omega) τ _ (fun c1 => absurd (aM.mp c1) g) (fun _ => ⟨rfl, fo.rfl'⟩)
