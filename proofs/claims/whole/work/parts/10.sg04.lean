set_option maxRecDepth 20000 in
theorem s_X7_join_0 {d : Nat} (hd : 0 ≤ d) {Q : Option ax_V → ax_S → Prop} (σ : ax_S) (a0 : Int32) (a1 : Int64) (a2 : Int64) (k1 : (a0 = (2 : Int32)) → ((lg_cmp (a1 + a2) (1000000 : Int64)) ≤ 0) → Q (some (ax_i (if (0 ≤ (lg_cmp (a1 + a2) (-1000000 : Int64))) then (Int64.toInt32 (a1 + a2)) else (-1000000 : Int32)))) σ) (k2 : (a0 = (2 : Int32)) → (¬ ((lg_cmp (a1 + a2) (1000000 : Int64)) ≤ 0)) → Q (some (ax_i (1000000 : Int32))) σ) (k3 : (¬ (a0 = (2 : Int32))) → (a0 = (3 : Int32)) → ((lg_cmp (a1 - a2) (1000000 : Int64)) ≤ 0) → Q (some (ax_i (if (0 ≤ (lg_cmp (a1 - a2) (-1000000 : Int64))) then (Int64.toInt32 (a1 - a2)) else (-1000000 : Int32)))) σ) (k4 : (¬ (a0 = (2 : Int32))) → (a0 = (3 : Int32)) → (¬ ((lg_cmp (a1 - a2) (1000000 : Int64)) ≤ 0)) → Q (some (ax_i (1000000 : Int32))) σ) (k5 : (¬ (a0 = (2 : Int32))) → (¬ (a0 = (3 : Int32))) → (a0 = (4 : Int32)) → ((lg_cmp (a1 * a2) (1000000 : Int64)) ≤ 0) → Q (some (ax_i (if (0 ≤ (lg_cmp (a1 * a2) (-1000000 : Int64))) then (Int64.toInt32 (a1 * a2)) else (-1000000 : Int32)))) σ) (k6 : (¬ (a0 = (2 : Int32))) → (¬ (a0 = (3 : Int32))) → (a0 = (4 : Int32)) → (¬ ((lg_cmp (a1 * a2) (1000000 : Int64)) ≤ 0)) → Q (some (ax_i (1000000 : Int32))) σ) (h7 : (¬ (a0 = (2 : Int32))) → (¬ (a0 = (3 : Int32))) → (¬ (a0 = (4 : Int32))) → (a0 = (5 : Int32)) → (¬ (lg_cmp a2 (0 : Int64)) = 0) → ¬ a2 = 0) (k8 : (¬ (a0 = (2 : Int32))) → (¬ (a0 = (3 : Int32))) → (¬ (a0 = (4 : Int32))) → (a0 = (5 : Int32)) → ((lg_cmp (if (¬ (lg_cmp a2 (0 : Int64)) = 0) then (a1 / a2) else (0 : Int64)) (1000000 : Int64)) ≤ 0) → Q (some (ax_i (if (0 ≤ (lg_cmp (if (¬ (lg_cmp a2 (0 : Int64)) = 0) then (a1 / a2) else (0 : Int64)) (-1000000 : Int64))) then (Int64.toInt32 (if (¬ (lg_cmp a2 (0 : Int64)) = 0) then (a1 / a2) else (0 : Int64))) else (-1000000 : Int32)))) σ) (k9 : (¬ (a0 = (2 : Int32))) → (¬ (a0 = (3 : Int32))) → (¬ (a0 = (4 : Int32))) → (a0 = (5 : Int32)) → (¬ ((lg_cmp (if (¬ (lg_cmp a2 (0 : Int64)) = 0) then (a1 / a2) else (0 : Int64)) (1000000 : Int64)) ≤ 0)) → Q (some (ax_i (1000000 : Int32))) σ) (k10 : (¬ (a0 = (2 : Int32))) → (¬ (a0 = (3 : Int32))) → (¬ (a0 = (4 : Int32))) → (¬ (a0 = (5 : Int32))) → (a0 = (6 : Int32)) → ((lg_cmp (if (¬ (lg_cmp a1 a2) = 0) then (0 : Int64) else (1 : Int64)) (1000000 : Int64)) ≤ 0) → Q (some (ax_i (if (0 ≤ (lg_cmp (if (¬ (lg_cmp a1 a2) = 0) then (0 : Int64) else (1 : Int64)) (-1000000 : Int64))) then (Int64.toInt32 (if (¬ (lg_cmp a1 a2) = 0) then (0 : Int64) else (1 : Int64))) else (-1000000 : Int32)))) σ) (k11 : (¬ (a0 = (2 : Int32))) → (¬ (a0 = (3 : Int32))) → (¬ (a0 = (4 : Int32))) → (¬ (a0 = (5 : Int32))) → (a0 = (6 : Int32)) → (¬ ((lg_cmp (if (¬ (lg_cmp a1 a2) = 0) then (0 : Int64) else (1 : Int64)) (1000000 : Int64)) ≤ 0)) → Q (some (ax_i (1000000 : Int32))) σ) (k12 : (¬ (a0 = (2 : Int32))) → (¬ (a0 = (3 : Int32))) → (¬ (a0 = (4 : Int32))) → (¬ (a0 = (5 : Int32))) → (¬ (a0 = (6 : Int32))) → (a0 = (7 : Int32)) → ((lg_cmp (if (0 ≤ (lg_cmp a1 a2)) then (0 : Int64) else (1 : Int64)) (1000000 : Int64)) ≤ 0) → Q (some (ax_i (if (0 ≤ (lg_cmp (if (0 ≤ (lg_cmp a1 a2)) then (0 : Int64) else (1 : Int64)) (-1000000 : Int64))) then (Int64.toInt32 (if (0 ≤ (lg_cmp a1 a2)) then (0 : Int64) else (1 : Int64))) else (-1000000 : Int32)))) σ) (k13 : (¬ (a0 = (2 : Int32))) → (¬ (a0 = (3 : Int32))) → (¬ (a0 = (4 : Int32))) → (¬ (a0 = (5 : Int32))) → (¬ (a0 = (6 : Int32))) → (a0 = (7 : Int32)) → (¬ ((lg_cmp (if (0 ≤ (lg_cmp a1 a2)) then (0 : Int64) else (1 : Int64)) (1000000 : Int64)) ≤ 0)) → Q (some (ax_i (1000000 : Int32))) σ) (k14 : (¬ (a0 = (2 : Int32))) → (¬ (a0 = (3 : Int32))) → (¬ (a0 = (4 : Int32))) → (¬ (a0 = (5 : Int32))) → (¬ (a0 = (6 : Int32))) → (¬ (a0 = (7 : Int32))) → (a0 = (8 : Int32)) → ((lg_cmp (if ((lg_cmp a1 a2) ≤ 0) then (0 : Int64) else (1 : Int64)) (1000000 : Int64)) ≤ 0) → Q (some (ax_i (if (0 ≤ (lg_cmp (if ((lg_cmp a1 a2) ≤ 0) then (0 : Int64) else (1 : Int64)) (-1000000 : Int64))) then (Int64.toInt32 (if ((lg_cmp a1 a2) ≤ 0) then (0 : Int64) else (1 : Int64))) else (-1000000 : Int32)))) σ) (k15 : (¬ (a0 = (2 : Int32))) → (¬ (a0 = (3 : Int32))) → (¬ (a0 = (4 : Int32))) → (¬ (a0 = (5 : Int32))) → (¬ (a0 = (6 : Int32))) → (¬ (a0 = (7 : Int32))) → (a0 = (8 : Int32)) → (¬ ((lg_cmp (if ((lg_cmp a1 a2) ≤ 0) then (0 : Int64) else (1 : Int64)) (1000000 : Int64)) ≤ 0)) → Q (some (ax_i (1000000 : Int32))) σ) (k16 : (¬ (a0 = (2 : Int32))) → (¬ (a0 = (3 : Int32))) → (¬ (a0 = (4 : Int32))) → (¬ (a0 = (5 : Int32))) → (¬ (a0 = (6 : Int32))) → (¬ (a0 = (7 : Int32))) → (¬ (a0 = (8 : Int32))) → (a0 = (9 : Int32)) → ((lg_cmp (if (¬ (lg_cmp a1 (0 : Int64)) = 0) then (1 : Int64) else (if ((lg_cmp a2 (0 : Int64)) = 0) then (0 : Int64) else (1 : Int64))) (1000000 : Int64)) ≤ 0) → Q (some (ax_i (if (0 ≤ (lg_cmp (if (¬ (lg_cmp a1 (0 : Int64)) = 0) then (1 : Int64) else (if ((lg_cmp a2 (0 : Int64)) = 0) then (0 : Int64) else (1 : Int64))) (-1000000 : Int64))) then (Int64.toInt32 (if (¬ (lg_cmp a1 (0 : Int64)) = 0) then (1 : Int64) else (if ((lg_cmp a2 (0 : Int64)) = 0) then (0 : Int64) else (1 : Int64)))) else (-1000000 : Int32)))) σ) (k17 : (¬ (a0 = (2 : Int32))) → (¬ (a0 = (3 : Int32))) → (¬ (a0 = (4 : Int32))) → (¬ (a0 = (5 : Int32))) → (¬ (a0 = (6 : Int32))) → (¬ (a0 = (7 : Int32))) → (¬ (a0 = (8 : Int32))) → (a0 = (9 : Int32)) → (¬ ((lg_cmp (if (¬ (lg_cmp a1 (0 : Int64)) = 0) then (1 : Int64) else (if ((lg_cmp a2 (0 : Int64)) = 0) then (0 : Int64) else (1 : Int64))) (1000000 : Int64)) ≤ 0)) → Q (some (ax_i (1000000 : Int32))) σ) (k18 : (¬ (a0 = (2 : Int32))) → (¬ (a0 = (3 : Int32))) → (¬ (a0 = (4 : Int32))) → (¬ (a0 = (5 : Int32))) → (¬ (a0 = (6 : Int32))) → (¬ (a0 = (7 : Int32))) → (¬ (a0 = (8 : Int32))) → (¬ (a0 = (9 : Int32))) → (a0 = (10 : Int32)) → ((lg_cmp (if ((lg_cmp a1 (0 : Int64)) = 0) then (0 : Int64) else (if ((lg_cmp a2 (0 : Int64)) = 0) then (0 : Int64) else (1 : Int64))) (1000000 : Int64)) ≤ 0) → Q (some (ax_i (if (0 ≤ (lg_cmp (if ((lg_cmp a1 (0 : Int64)) = 0) then (0 : Int64) else (if ((lg_cmp a2 (0 : Int64)) = 0) then (0 : Int64) else (1 : Int64))) (-1000000 : Int64))) then (Int64.toInt32 (if ((lg_cmp a1 (0 : Int64)) = 0) then (0 : Int64) else (if ((lg_cmp a2 (0 : Int64)) = 0) then (0 : Int64) else (1 : Int64)))) else (-1000000 : Int32)))) σ) (k19 : (¬ (a0 = (2 : Int32))) → (¬ (a0 = (3 : Int32))) → (¬ (a0 = (4 : Int32))) → (¬ (a0 = (5 : Int32))) → (¬ (a0 = (6 : Int32))) → (¬ (a0 = (7 : Int32))) → (¬ (a0 = (8 : Int32))) → (¬ (a0 = (9 : Int32))) → (a0 = (10 : Int32)) → (¬ ((lg_cmp (if ((lg_cmp a1 (0 : Int64)) = 0) then (0 : Int64) else (if ((lg_cmp a2 (0 : Int64)) = 0) then (0 : Int64) else (1 : Int64))) (1000000 : Int64)) ≤ 0)) → Q (some (ax_i (1000000 : Int32))) σ) (k20 : (¬ (a0 = (2 : Int32))) → (¬ (a0 = (3 : Int32))) → (¬ (a0 = (4 : Int32))) → (¬ (a0 = (5 : Int32))) → (¬ (a0 = (6 : Int32))) → (¬ (a0 = (7 : Int32))) → (¬ (a0 = (8 : Int32))) → (¬ (a0 = (9 : Int32))) → (¬ (a0 = (10 : Int32))) → ((lg_cmp (if (¬ (lg_cmp a1 (0 : Int64)) = 0) then (1 : Int64) else (if ((lg_cmp a2 (0 : Int64)) = 0) then (0 : Int64) else (1 : Int64))) (1000000 : Int64)) ≤ 0) → Q (some (ax_i (if (0 ≤ (lg_cmp (if (¬ (lg_cmp a1 (0 : Int64)) = 0) then (1 : Int64) else (if ((lg_cmp a2 (0 : Int64)) = 0) then (0 : Int64) else (1 : Int64))) (-1000000 : Int64))) then (Int64.toInt32 (if (¬ (lg_cmp a1 (0 : Int64)) = 0) then (1 : Int64) else (if ((lg_cmp a2 (0 : Int64)) = 0) then (0 : Int64) else (1 : Int64)))) else (-1000000 : Int32)))) σ) (k21 : (¬ (a0 = (2 : Int32))) → (¬ (a0 = (3 : Int32))) → (¬ (a0 = (4 : Int32))) → (¬ (a0 = (5 : Int32))) → (¬ (a0 = (6 : Int32))) → (¬ (a0 = (7 : Int32))) → (¬ (a0 = (8 : Int32))) → (¬ (a0 = (9 : Int32))) → (¬ (a0 = (10 : Int32))) → (¬ ((lg_cmp (if (¬ (lg_cmp a1 (0 : Int64)) = 0) then (1 : Int64) else (if ((lg_cmp a2 (0 : Int64)) = 0) then (0 : Int64) else (1 : Int64))) (1000000 : Int64)) ≤ 0)) → Q (some (ax_i (1000000 : Int32))) σ) : ax_W shC (d + 1) mX7_join Q 0 [some (ax_i a0), some (ax_l a1), none, some (ax_l a2), none, none, none] [] σ := by
  refine ax_iload_n (q := 1) (i := 0) dX7_join_0 rfl rfl rfl ?_
  by_cases c1 : (a0 = (2 : Int32))
  · refine ax_tableIn (tgt := 52) (off := 51) dX7_join_1 (by rw [c1]; decide) (by rw [c1]; decide) (by rw [c1]; decide) (by decide) ?_
    refine ax_lload_n (q := 53) (i := 1) dX7_join_52 rfl rfl rfl ?_
    refine ax_lload_n (q := 54) (i := 3) dX7_join_53 rfl rfl rfl ?_
    refine ax_ladd (q := 55) dX7_join_54 rfl ?_
    refine ax_lstore (q := 57) (lv2 := [some (ax_i a0), some (ax_l a1), none, some (ax_l a2), none, some (ax_l (a1 + a2)), none]) dX7_join_55 rfl (by decide) rfl rfl ?_
    refine ax_goto (tgt := 183) dX7_join_57 (by decide) ?_
    refine ax_lload (q := 185) dX7_join_183 rfl rfl ?_
    refine ax_ldc2 (q := 188) dX7_join_185 rfl kc_X7_58 ?_
    refine ax_lcmp (q := 189) dX7_join_188 rfl ?_
    refine ax_if_le (tgt := 195) (q := 192) dX7_join_189 (by decide) rfl (fun c2 => ?_) (fun c2 => ?_)
    · refine ax_lload (q := 197) dX7_join_195 rfl rfl ?_
      refine ax_ldc2 (q := 200) dX7_join_197 rfl kc_X7_61 ?_
      refine ax_lcmp (q := 201) dX7_join_200 rfl ?_
      have K4 : ax_W shC (d + 1) mX7_join Q 212 [some (ax_i a0), some (ax_l a1), none, some (ax_l a2), none, some (ax_l (a1 + a2)), none] [ax_i (if (0 ≤ (lg_cmp (a1 + a2) (-1000000 : Int64))) then (Int64.toInt32 (a1 + a2)) else (-1000000 : Int32))] σ := by
        exact ax_iret dX7_join_212 rfl rfl (k1 c1 c2)
      refine ax_if_ge (tgt := 209) (q := 204) dX7_join_201 (by decide) rfl (fun c3 => ?_) (fun c3 => ?_)
      · refine ax_lload (q := 211) dX7_join_209 rfl rfl ?_
        refine ax_l2i (q := 212) dX7_join_211 rfl ?_
        exact ax_cv (if_pos c3) K4
      · refine ax_ldc (q := 206) dX7_join_204 rfl kc_X7_63 ?_
        refine ax_goto (tgt := 212) dX7_join_206 (by decide) ?_
        exact ax_cv (if_neg c3) K4
    · refine ax_ldc (q := 194) dX7_join_192 rfl kc_X7_60 ?_
      exact ax_iret dX7_join_194 rfl rfl (k2 c1 c2)
  by_cases c5 : (a0 = (3 : Int32))
  · refine ax_tableIn (tgt := 60) (off := 59) dX7_join_1 (by rw [c5]; decide) (by rw [c5]; decide) (by rw [c5]; decide) (by decide) ?_
    refine ax_lload_n (q := 61) (i := 1) dX7_join_60 rfl rfl rfl ?_
    refine ax_lload_n (q := 62) (i := 3) dX7_join_61 rfl rfl rfl ?_
    refine ax_lsub (q := 63) dX7_join_62 rfl ?_
    refine ax_lstore (q := 65) (lv2 := [some (ax_i a0), some (ax_l a1), none, some (ax_l a2), none, some (ax_l (a1 - a2)), none]) dX7_join_63 rfl (by decide) rfl rfl ?_
    refine ax_goto (tgt := 183) dX7_join_65 (by decide) ?_
    refine ax_lload (q := 185) dX7_join_183 rfl rfl ?_
    refine ax_ldc2 (q := 188) dX7_join_185 rfl kc_X7_58 ?_
    refine ax_lcmp (q := 189) dX7_join_188 rfl ?_
    refine ax_if_le (tgt := 195) (q := 192) dX7_join_189 (by decide) rfl (fun c6 => ?_) (fun c6 => ?_)
    · refine ax_lload (q := 197) dX7_join_195 rfl rfl ?_
      refine ax_ldc2 (q := 200) dX7_join_197 rfl kc_X7_61 ?_
      refine ax_lcmp (q := 201) dX7_join_200 rfl ?_
      have K8 : ax_W shC (d + 1) mX7_join Q 212 [some (ax_i a0), some (ax_l a1), none, some (ax_l a2), none, some (ax_l (a1 - a2)), none] [ax_i (if (0 ≤ (lg_cmp (a1 - a2) (-1000000 : Int64))) then (Int64.toInt32 (a1 - a2)) else (-1000000 : Int32))] σ := by
        exact ax_iret dX7_join_212 rfl rfl (k3 c1 c5 c6)
      refine ax_if_ge (tgt := 209) (q := 204) dX7_join_201 (by decide) rfl (fun c7 => ?_) (fun c7 => ?_)
      · refine ax_lload (q := 211) dX7_join_209 rfl rfl ?_
        refine ax_l2i (q := 212) dX7_join_211 rfl ?_
        exact ax_cv (if_pos c7) K8
      · refine ax_ldc (q := 206) dX7_join_204 rfl kc_X7_63 ?_
        refine ax_goto (tgt := 212) dX7_join_206 (by decide) ?_
        exact ax_cv (if_neg c7) K8
    · refine ax_ldc (q := 194) dX7_join_192 rfl kc_X7_60 ?_
      exact ax_iret dX7_join_194 rfl rfl (k4 c1 c5 c6)
  by_cases c9 : (a0 = (4 : Int32))
  · refine ax_tableIn (tgt := 68) (off := 67) dX7_join_1 (by rw [c9]; decide) (by rw [c9]; decide) (by rw [c9]; decide) (by decide) ?_
    refine ax_lload_n (q := 69) (i := 1) dX7_join_68 rfl rfl rfl ?_
    refine ax_lload_n (q := 70) (i := 3) dX7_join_69 rfl rfl rfl ?_
    refine ax_lmul (q := 71) dX7_join_70 rfl ?_
    refine ax_lstore (q := 73) (lv2 := [some (ax_i a0), some (ax_l a1), none, some (ax_l a2), none, some (ax_l (a1 * a2)), none]) dX7_join_71 rfl (by decide) rfl rfl ?_
    refine ax_goto (tgt := 183) dX7_join_73 (by decide) ?_
    refine ax_lload (q := 185) dX7_join_183 rfl rfl ?_
    refine ax_ldc2 (q := 188) dX7_join_185 rfl kc_X7_58 ?_
    refine ax_lcmp (q := 189) dX7_join_188 rfl ?_
    refine ax_if_le (tgt := 195) (q := 192) dX7_join_189 (by decide) rfl (fun c10 => ?_) (fun c10 => ?_)
    · refine ax_lload (q := 197) dX7_join_195 rfl rfl ?_
      refine ax_ldc2 (q := 200) dX7_join_197 rfl kc_X7_61 ?_
      refine ax_lcmp (q := 201) dX7_join_200 rfl ?_
      have K12 : ax_W shC (d + 1) mX7_join Q 212 [some (ax_i a0), some (ax_l a1), none, some (ax_l a2), none, some (ax_l (a1 * a2)), none] [ax_i (if (0 ≤ (lg_cmp (a1 * a2) (-1000000 : Int64))) then (Int64.toInt32 (a1 * a2)) else (-1000000 : Int32))] σ := by
        exact ax_iret dX7_join_212 rfl rfl (k5 c1 c5 c9 c10)
      refine ax_if_ge (tgt := 209) (q := 204) dX7_join_201 (by decide) rfl (fun c11 => ?_) (fun c11 => ?_)
      · refine ax_lload (q := 211) dX7_join_209 rfl rfl ?_
        refine ax_l2i (q := 212) dX7_join_211 rfl ?_
        exact ax_cv (if_pos c11) K12
      · refine ax_ldc (q := 206) dX7_join_204 rfl kc_X7_63 ?_
        refine ax_goto (tgt := 212) dX7_join_206 (by decide) ?_
        exact ax_cv (if_neg c11) K12
    · refine ax_ldc (q := 194) dX7_join_192 rfl kc_X7_60 ?_
      exact ax_iret dX7_join_194 rfl rfl (k6 c1 c5 c9 c10)
  by_cases c13 : (a0 = (5 : Int32))
  · refine ax_tableIn (tgt := 76) (off := 75) dX7_join_1 (by rw [c13]; decide) (by rw [c13]; decide) (by rw [c13]; decide) (by decide) ?_
    refine ax_lload_n (q := 77) (i := 3) dX7_join_76 rfl rfl rfl ?_
    refine ax_lconst (q := 78) (v := 0) dX7_join_77 rfl rfl ?_
    refine ax_lcmp (q := 79) dX7_join_78 rfl ?_
    have K15 : ax_W shC (d + 1) mX7_join Q 89 [some (ax_i a0), some (ax_l a1), none, some (ax_l a2), none, none, none] [ax_l (if (¬ (lg_cmp a2 (0 : Int64)) = 0) then (a1 / a2) else (0 : Int64))] σ := by
      refine ax_lstore (q := 91) (lv2 := [some (ax_i a0), some (ax_l a1), none, some (ax_l a2), none, some (ax_l (if (¬ (lg_cmp a2 (0 : Int64)) = 0) then (a1 / a2) else (0 : Int64))), none]) dX7_join_89 rfl (by decide) rfl rfl ?_
      refine ax_goto (tgt := 183) dX7_join_91 (by decide) ?_
      refine ax_lload (q := 185) dX7_join_183 rfl rfl ?_
      refine ax_ldc2 (q := 188) dX7_join_185 rfl kc_X7_58 ?_
      refine ax_lcmp (q := 189) dX7_join_188 rfl ?_
      refine ax_if_le (tgt := 195) (q := 192) dX7_join_189 (by decide) rfl (fun c16 => ?_) (fun c16 => ?_)
      · refine ax_lload (q := 197) dX7_join_195 rfl rfl ?_
        refine ax_ldc2 (q := 200) dX7_join_197 rfl kc_X7_61 ?_
        refine ax_lcmp (q := 201) dX7_join_200 rfl ?_
        have K18 : ax_W shC (d + 1) mX7_join Q 212 [some (ax_i a0), some (ax_l a1), none, some (ax_l a2), none, some (ax_l (if (¬ (lg_cmp a2 (0 : Int64)) = 0) then (a1 / a2) else (0 : Int64))), none] [ax_i (if (0 ≤ (lg_cmp (if (¬ (lg_cmp a2 (0 : Int64)) = 0) then (a1 / a2) else (0 : Int64)) (-1000000 : Int64))) then (Int64.toInt32 (if (¬ (lg_cmp a2 (0 : Int64)) = 0) then (a1 / a2) else (0 : Int64))) else (-1000000 : Int32))] σ := by
          exact ax_iret dX7_join_212 rfl rfl (k8 c1 c5 c9 c13 c16)
        refine ax_if_ge (tgt := 209) (q := 204) dX7_join_201 (by decide) rfl (fun c17 => ?_) (fun c17 => ?_)
        · refine ax_lload (q := 211) dX7_join_209 rfl rfl ?_
          refine ax_l2i (q := 212) dX7_join_211 rfl ?_
          exact ax_cv (if_pos c17) K18
        · refine ax_ldc (q := 206) dX7_join_204 rfl kc_X7_63 ?_
          refine ax_goto (tgt := 212) dX7_join_206 (by decide) ?_
          exact ax_cv (if_neg c17) K18
      · refine ax_ldc (q := 194) dX7_join_192 rfl kc_X7_60 ?_
        exact ax_iret dX7_join_194 rfl rfl (k9 c1 c5 c9 c13 c16)
    refine ax_if_ne (tgt := 86) (q := 82) dX7_join_79 (by decide) rfl (fun c14 => ?_) (fun c14 => ?_)
    · refine ax_lload_n (q := 87) (i := 1) dX7_join_86 rfl rfl rfl ?_
      refine ax_lload_n (q := 88) (i := 3) dX7_join_87 rfl rfl rfl ?_
      refine ax_ldiv (q := 89) dX7_join_88 rfl (h7 c1 c5 c9 c13 c14) ?_
      exact ax_cvl (if_pos c14) K15
    · refine ax_lconst (q := 83) (v := 0) dX7_join_82 rfl rfl ?_
      refine ax_goto (tgt := 89) dX7_join_83 (by decide) ?_
      exact ax_cvl (if_neg c14) K15
  by_cases c19 : (a0 = (6 : Int32))
  · refine ax_tableIn (tgt := 94) (off := 93) dX7_join_1 (by rw [c19]; decide) (by rw [c19]; decide) (by rw [c19]; decide) (by decide) ?_
    refine ax_lload_n (q := 95) (i := 1) dX7_join_94 rfl rfl rfl ?_
    refine ax_lload_n (q := 96) (i := 3) dX7_join_95 rfl rfl rfl ?_
    refine ax_lcmp (q := 97) dX7_join_96 rfl ?_
    have K21 : ax_W shC (d + 1) mX7_join Q 105 [some (ax_i a0), some (ax_l a1), none, some (ax_l a2), none, none, none] [ax_l (if (¬ (lg_cmp a1 a2) = 0) then (0 : Int64) else (1 : Int64))] σ := by
      refine ax_lstore (q := 107) (lv2 := [some (ax_i a0), some (ax_l a1), none, some (ax_l a2), none, some (ax_l (if (¬ (lg_cmp a1 a2) = 0) then (0 : Int64) else (1 : Int64))), none]) dX7_join_105 rfl (by decide) rfl rfl ?_
      refine ax_goto (tgt := 183) dX7_join_107 (by decide) ?_
      refine ax_lload (q := 185) dX7_join_183 rfl rfl ?_
      refine ax_ldc2 (q := 188) dX7_join_185 rfl kc_X7_58 ?_
      refine ax_lcmp (q := 189) dX7_join_188 rfl ?_
      refine ax_if_le (tgt := 195) (q := 192) dX7_join_189 (by decide) rfl (fun c22 => ?_) (fun c22 => ?_)
      · refine ax_lload (q := 197) dX7_join_195 rfl rfl ?_
        refine ax_ldc2 (q := 200) dX7_join_197 rfl kc_X7_61 ?_
        refine ax_lcmp (q := 201) dX7_join_200 rfl ?_
        have K24 : ax_W shC (d + 1) mX7_join Q 212 [some (ax_i a0), some (ax_l a1), none, some (ax_l a2), none, some (ax_l (if (¬ (lg_cmp a1 a2) = 0) then (0 : Int64) else (1 : Int64))), none] [ax_i (if (0 ≤ (lg_cmp (if (¬ (lg_cmp a1 a2) = 0) then (0 : Int64) else (1 : Int64)) (-1000000 : Int64))) then (Int64.toInt32 (if (¬ (lg_cmp a1 a2) = 0) then (0 : Int64) else (1 : Int64))) else (-1000000 : Int32))] σ := by
          exact ax_iret dX7_join_212 rfl rfl (k10 c1 c5 c9 c13 c19 c22)
        refine ax_if_ge (tgt := 209) (q := 204) dX7_join_201 (by decide) rfl (fun c23 => ?_) (fun c23 => ?_)
        · refine ax_lload (q := 211) dX7_join_209 rfl rfl ?_
          refine ax_l2i (q := 212) dX7_join_211 rfl ?_
          exact ax_cv (if_pos c23) K24
        · refine ax_ldc (q := 206) dX7_join_204 rfl kc_X7_63 ?_
          refine ax_goto (tgt := 212) dX7_join_206 (by decide) ?_
          exact ax_cv (if_neg c23) K24
      · refine ax_ldc (q := 194) dX7_join_192 rfl kc_X7_60 ?_
        exact ax_iret dX7_join_194 rfl rfl (k11 c1 c5 c9 c13 c19 c22)
    refine ax_if_ne (tgt := 104) (q := 100) dX7_join_97 (by decide) rfl (fun c20 => ?_) (fun c20 => ?_)
    · refine ax_lconst (q := 105) (v := 0) dX7_join_104 rfl rfl ?_
      exact ax_cvl (if_pos c20) K21
    · refine ax_lconst (q := 101) (v := 1) dX7_join_100 rfl rfl ?_
      refine ax_goto (tgt := 105) dX7_join_101 (by decide) ?_
      exact ax_cvl (if_neg c20) K21
  by_cases c25 : (a0 = (7 : Int32))
  · refine ax_tableIn (tgt := 110) (off := 109) dX7_join_1 (by rw [c25]; decide) (by rw [c25]; decide) (by rw [c25]; decide) (by decide) ?_
    refine ax_lload_n (q := 111) (i := 1) dX7_join_110 rfl rfl rfl ?_
    refine ax_lload_n (q := 112) (i := 3) dX7_join_111 rfl rfl rfl ?_
    refine ax_lcmp (q := 113) dX7_join_112 rfl ?_
    have K27 : ax_W shC (d + 1) mX7_join Q 121 [some (ax_i a0), some (ax_l a1), none, some (ax_l a2), none, none, none] [ax_l (if (0 ≤ (lg_cmp a1 a2)) then (0 : Int64) else (1 : Int64))] σ := by
      refine ax_lstore (q := 123) (lv2 := [some (ax_i a0), some (ax_l a1), none, some (ax_l a2), none, some (ax_l (if (0 ≤ (lg_cmp a1 a2)) then (0 : Int64) else (1 : Int64))), none]) dX7_join_121 rfl (by decide) rfl rfl ?_
      refine ax_goto (tgt := 183) dX7_join_123 (by decide) ?_
      refine ax_lload (q := 185) dX7_join_183 rfl rfl ?_
      refine ax_ldc2 (q := 188) dX7_join_185 rfl kc_X7_58 ?_
      refine ax_lcmp (q := 189) dX7_join_188 rfl ?_
      refine ax_if_le (tgt := 195) (q := 192) dX7_join_189 (by decide) rfl (fun c28 => ?_) (fun c28 => ?_)
      · refine ax_lload (q := 197) dX7_join_195 rfl rfl ?_
        refine ax_ldc2 (q := 200) dX7_join_197 rfl kc_X7_61 ?_
        refine ax_lcmp (q := 201) dX7_join_200 rfl ?_
        have K30 : ax_W shC (d + 1) mX7_join Q 212 [some (ax_i a0), some (ax_l a1), none, some (ax_l a2), none, some (ax_l (if (0 ≤ (lg_cmp a1 a2)) then (0 : Int64) else (1 : Int64))), none] [ax_i (if (0 ≤ (lg_cmp (if (0 ≤ (lg_cmp a1 a2)) then (0 : Int64) else (1 : Int64)) (-1000000 : Int64))) then (Int64.toInt32 (if (0 ≤ (lg_cmp a1 a2)) then (0 : Int64) else (1 : Int64))) else (-1000000 : Int32))] σ := by
          exact ax_iret dX7_join_212 rfl rfl (k12 c1 c5 c9 c13 c19 c25 c28)
        refine ax_if_ge (tgt := 209) (q := 204) dX7_join_201 (by decide) rfl (fun c29 => ?_) (fun c29 => ?_)
        · refine ax_lload (q := 211) dX7_join_209 rfl rfl ?_
          refine ax_l2i (q := 212) dX7_join_211 rfl ?_
          exact ax_cv (if_pos c29) K30
        · refine ax_ldc (q := 206) dX7_join_204 rfl kc_X7_63 ?_
          refine ax_goto (tgt := 212) dX7_join_206 (by decide) ?_
          exact ax_cv (if_neg c29) K30
      · refine ax_ldc (q := 194) dX7_join_192 rfl kc_X7_60 ?_
        exact ax_iret dX7_join_194 rfl rfl (k13 c1 c5 c9 c13 c19 c25 c28)
    refine ax_if_ge (tgt := 120) (q := 116) dX7_join_113 (by decide) rfl (fun c26 => ?_) (fun c26 => ?_)
    · refine ax_lconst (q := 121) (v := 0) dX7_join_120 rfl rfl ?_
      exact ax_cvl (if_pos c26) K27
    · refine ax_lconst (q := 117) (v := 1) dX7_join_116 rfl rfl ?_
      refine ax_goto (tgt := 121) dX7_join_117 (by decide) ?_
      exact ax_cvl (if_neg c26) K27
  by_cases c31 : (a0 = (8 : Int32))
  · refine ax_tableIn (tgt := 126) (off := 125) dX7_join_1 (by rw [c31]; decide) (by rw [c31]; decide) (by rw [c31]; decide) (by decide) ?_
    refine ax_lload_n (q := 127) (i := 1) dX7_join_126 rfl rfl rfl ?_
    refine ax_lload_n (q := 128) (i := 3) dX7_join_127 rfl rfl rfl ?_
    refine ax_lcmp (q := 129) dX7_join_128 rfl ?_
    have K33 : ax_W shC (d + 1) mX7_join Q 137 [some (ax_i a0), some (ax_l a1), none, some (ax_l a2), none, none, none] [ax_l (if ((lg_cmp a1 a2) ≤ 0) then (0 : Int64) else (1 : Int64))] σ := by
      refine ax_lstore (q := 139) (lv2 := [some (ax_i a0), some (ax_l a1), none, some (ax_l a2), none, some (ax_l (if ((lg_cmp a1 a2) ≤ 0) then (0 : Int64) else (1 : Int64))), none]) dX7_join_137 rfl (by decide) rfl rfl ?_
      refine ax_goto (tgt := 183) dX7_join_139 (by decide) ?_
      refine ax_lload (q := 185) dX7_join_183 rfl rfl ?_
      refine ax_ldc2 (q := 188) dX7_join_185 rfl kc_X7_58 ?_
      refine ax_lcmp (q := 189) dX7_join_188 rfl ?_
      refine ax_if_le (tgt := 195) (q := 192) dX7_join_189 (by decide) rfl (fun c34 => ?_) (fun c34 => ?_)
      · refine ax_lload (q := 197) dX7_join_195 rfl rfl ?_
        refine ax_ldc2 (q := 200) dX7_join_197 rfl kc_X7_61 ?_
        refine ax_lcmp (q := 201) dX7_join_200 rfl ?_
        have K36 : ax_W shC (d + 1) mX7_join Q 212 [some (ax_i a0), some (ax_l a1), none, some (ax_l a2), none, some (ax_l (if ((lg_cmp a1 a2) ≤ 0) then (0 : Int64) else (1 : Int64))), none] [ax_i (if (0 ≤ (lg_cmp (if ((lg_cmp a1 a2) ≤ 0) then (0 : Int64) else (1 : Int64)) (-1000000 : Int64))) then (Int64.toInt32 (if ((lg_cmp a1 a2) ≤ 0) then (0 : Int64) else (1 : Int64))) else (-1000000 : Int32))] σ := by
          exact ax_iret dX7_join_212 rfl rfl (k14 c1 c5 c9 c13 c19 c25 c31 c34)
        refine ax_if_ge (tgt := 209) (q := 204) dX7_join_201 (by decide) rfl (fun c35 => ?_) (fun c35 => ?_)
        · refine ax_lload (q := 211) dX7_join_209 rfl rfl ?_
          refine ax_l2i (q := 212) dX7_join_211 rfl ?_
          exact ax_cv (if_pos c35) K36
        · refine ax_ldc (q := 206) dX7_join_204 rfl kc_X7_63 ?_
          refine ax_goto (tgt := 212) dX7_join_206 (by decide) ?_
          exact ax_cv (if_neg c35) K36
      · refine ax_ldc (q := 194) dX7_join_192 rfl kc_X7_60 ?_
        exact ax_iret dX7_join_194 rfl rfl (k15 c1 c5 c9 c13 c19 c25 c31 c34)
    refine ax_if_le (tgt := 136) (q := 132) dX7_join_129 (by decide) rfl (fun c32 => ?_) (fun c32 => ?_)
    · refine ax_lconst (q := 137) (v := 0) dX7_join_136 rfl rfl ?_
      exact ax_cvl (if_pos c32) K33
    · refine ax_lconst (q := 133) (v := 1) dX7_join_132 rfl rfl ?_
      refine ax_goto (tgt := 137) dX7_join_133 (by decide) ?_
      exact ax_cvl (if_neg c32) K33
  by_cases c37 : (a0 = (9 : Int32))
  · refine ax_tableIn (tgt := 164) (off := 163) dX7_join_1 (by rw [c37]; decide) (by rw [c37]; decide) (by rw [c37]; decide) (by decide) ?_
    refine ax_lload_n (q := 165) (i := 1) dX7_join_164 rfl rfl rfl ?_
    refine ax_lconst (q := 166) (v := 0) dX7_join_165 rfl rfl ?_
    refine ax_lcmp (q := 167) dX7_join_166 rfl ?_
    have K40 : ax_W shC (d + 1) mX7_join Q 181 [some (ax_i a0), some (ax_l a1), none, some (ax_l a2), none, none, none] [ax_l (if (¬ (lg_cmp a1 (0 : Int64)) = 0) then (1 : Int64) else (if ((lg_cmp a2 (0 : Int64)) = 0) then (0 : Int64) else (1 : Int64)))] σ := by
      refine ax_lstore (q := 183) (lv2 := [some (ax_i a0), some (ax_l a1), none, some (ax_l a2), none, some (ax_l (if (¬ (lg_cmp a1 (0 : Int64)) = 0) then (1 : Int64) else (if ((lg_cmp a2 (0 : Int64)) = 0) then (0 : Int64) else (1 : Int64)))), none]) dX7_join_181 rfl (by decide) rfl rfl ?_
      refine ax_lload (q := 185) dX7_join_183 rfl rfl ?_
      refine ax_ldc2 (q := 188) dX7_join_185 rfl kc_X7_58 ?_
      refine ax_lcmp (q := 189) dX7_join_188 rfl ?_
      refine ax_if_le (tgt := 195) (q := 192) dX7_join_189 (by decide) rfl (fun c41 => ?_) (fun c41 => ?_)
      · refine ax_lload (q := 197) dX7_join_195 rfl rfl ?_
        refine ax_ldc2 (q := 200) dX7_join_197 rfl kc_X7_61 ?_
        refine ax_lcmp (q := 201) dX7_join_200 rfl ?_
        have K43 : ax_W shC (d + 1) mX7_join Q 212 [some (ax_i a0), some (ax_l a1), none, some (ax_l a2), none, some (ax_l (if (¬ (lg_cmp a1 (0 : Int64)) = 0) then (1 : Int64) else (if ((lg_cmp a2 (0 : Int64)) = 0) then (0 : Int64) else (1 : Int64)))), none] [ax_i (if (0 ≤ (lg_cmp (if (¬ (lg_cmp a1 (0 : Int64)) = 0) then (1 : Int64) else (if ((lg_cmp a2 (0 : Int64)) = 0) then (0 : Int64) else (1 : Int64))) (-1000000 : Int64))) then (Int64.toInt32 (if (¬ (lg_cmp a1 (0 : Int64)) = 0) then (1 : Int64) else (if ((lg_cmp a2 (0 : Int64)) = 0) then (0 : Int64) else (1 : Int64)))) else (-1000000 : Int32))] σ := by
          exact ax_iret dX7_join_212 rfl rfl (k16 c1 c5 c9 c13 c19 c25 c31 c37 c41)
        refine ax_if_ge (tgt := 209) (q := 204) dX7_join_201 (by decide) rfl (fun c42 => ?_) (fun c42 => ?_)
        · refine ax_lload (q := 211) dX7_join_209 rfl rfl ?_
          refine ax_l2i (q := 212) dX7_join_211 rfl ?_
          exact ax_cv (if_pos c42) K43
        · refine ax_ldc (q := 206) dX7_join_204 rfl kc_X7_63 ?_
          refine ax_goto (tgt := 212) dX7_join_206 (by decide) ?_
          exact ax_cv (if_neg c42) K43
      · refine ax_ldc (q := 194) dX7_join_192 rfl kc_X7_60 ?_
        exact ax_iret dX7_join_194 rfl rfl (k17 c1 c5 c9 c13 c19 c25 c31 c37 c41)
    refine ax_if_ne (tgt := 176) (q := 170) dX7_join_167 (by decide) rfl (fun c38 => ?_) (fun c38 => ?_)
    · refine ax_lconst (q := 177) (v := 1) dX7_join_176 rfl rfl ?_
      refine ax_goto (tgt := 181) dX7_join_177 (by decide) ?_
      exact ax_cvl (if_pos c38) K40
    · refine ax_lload_n (q := 171) (i := 3) dX7_join_170 rfl rfl rfl ?_
      refine ax_lconst (q := 172) (v := 0) dX7_join_171 rfl rfl ?_
      refine ax_lcmp (q := 173) dX7_join_172 rfl ?_
      refine ax_if_eq (tgt := 180) (q := 176) dX7_join_173 (by decide) rfl (fun c39 => ?_) (fun c39 => ?_)
      · refine ax_lconst (q := 181) (v := 0) dX7_join_180 rfl rfl ?_
        exact ax_cvl ((if_neg c38).trans (if_pos c39)) K40
      · refine ax_lconst (q := 177) (v := 1) dX7_join_176 rfl rfl ?_
        refine ax_goto (tgt := 181) dX7_join_177 (by decide) ?_
        exact ax_cvl ((if_neg c38).trans (if_neg c39)) K40
  by_cases c44 : (a0 = (10 : Int32))
  · refine ax_tableIn (tgt := 142) (off := 141) dX7_join_1 (by rw [c44]; decide) (by rw [c44]; decide) (by rw [c44]; decide) (by decide) ?_
    refine ax_lload_n (q := 143) (i := 1) dX7_join_142 rfl rfl rfl ?_
    refine ax_lconst (q := 144) (v := 0) dX7_join_143 rfl rfl ?_
    refine ax_lcmp (q := 145) dX7_join_144 rfl ?_
    have K47 : ax_W shC (d + 1) mX7_join Q 159 [some (ax_i a0), some (ax_l a1), none, some (ax_l a2), none, none, none] [ax_l (if ((lg_cmp a1 (0 : Int64)) = 0) then (0 : Int64) else (if ((lg_cmp a2 (0 : Int64)) = 0) then (0 : Int64) else (1 : Int64)))] σ := by
      refine ax_lstore (q := 161) (lv2 := [some (ax_i a0), some (ax_l a1), none, some (ax_l a2), none, some (ax_l (if ((lg_cmp a1 (0 : Int64)) = 0) then (0 : Int64) else (if ((lg_cmp a2 (0 : Int64)) = 0) then (0 : Int64) else (1 : Int64)))), none]) dX7_join_159 rfl (by decide) rfl rfl ?_
      refine ax_goto (tgt := 183) dX7_join_161 (by decide) ?_
      refine ax_lload (q := 185) dX7_join_183 rfl rfl ?_
      refine ax_ldc2 (q := 188) dX7_join_185 rfl kc_X7_58 ?_
      refine ax_lcmp (q := 189) dX7_join_188 rfl ?_
      refine ax_if_le (tgt := 195) (q := 192) dX7_join_189 (by decide) rfl (fun c48 => ?_) (fun c48 => ?_)
      · refine ax_lload (q := 197) dX7_join_195 rfl rfl ?_
        refine ax_ldc2 (q := 200) dX7_join_197 rfl kc_X7_61 ?_
        refine ax_lcmp (q := 201) dX7_join_200 rfl ?_
        have K50 : ax_W shC (d + 1) mX7_join Q 212 [some (ax_i a0), some (ax_l a1), none, some (ax_l a2), none, some (ax_l (if ((lg_cmp a1 (0 : Int64)) = 0) then (0 : Int64) else (if ((lg_cmp a2 (0 : Int64)) = 0) then (0 : Int64) else (1 : Int64)))), none] [ax_i (if (0 ≤ (lg_cmp (if ((lg_cmp a1 (0 : Int64)) = 0) then (0 : Int64) else (if ((lg_cmp a2 (0 : Int64)) = 0) then (0 : Int64) else (1 : Int64))) (-1000000 : Int64))) then (Int64.toInt32 (if ((lg_cmp a1 (0 : Int64)) = 0) then (0 : Int64) else (if ((lg_cmp a2 (0 : Int64)) = 0) then (0 : Int64) else (1 : Int64)))) else (-1000000 : Int32))] σ := by
          exact ax_iret dX7_join_212 rfl rfl (k18 c1 c5 c9 c13 c19 c25 c31 c37 c44 c48)
        refine ax_if_ge (tgt := 209) (q := 204) dX7_join_201 (by decide) rfl (fun c49 => ?_) (fun c49 => ?_)
        · refine ax_lload (q := 211) dX7_join_209 rfl rfl ?_
          refine ax_l2i (q := 212) dX7_join_211 rfl ?_
          exact ax_cv (if_pos c49) K50
        · refine ax_ldc (q := 206) dX7_join_204 rfl kc_X7_63 ?_
          refine ax_goto (tgt := 212) dX7_join_206 (by decide) ?_
          exact ax_cv (if_neg c49) K50
      · refine ax_ldc (q := 194) dX7_join_192 rfl kc_X7_60 ?_
        exact ax_iret dX7_join_194 rfl rfl (k19 c1 c5 c9 c13 c19 c25 c31 c37 c44 c48)
    refine ax_if_eq (tgt := 158) (q := 148) dX7_join_145 (by decide) rfl (fun c45 => ?_) (fun c45 => ?_)
    · refine ax_lconst (q := 159) (v := 0) dX7_join_158 rfl rfl ?_
      exact ax_cvl (if_pos c45) K47
    · refine ax_lload_n (q := 149) (i := 3) dX7_join_148 rfl rfl rfl ?_
      refine ax_lconst (q := 150) (v := 0) dX7_join_149 rfl rfl ?_
      refine ax_lcmp (q := 151) dX7_join_150 rfl ?_
      refine ax_if_eq (tgt := 158) (q := 154) dX7_join_151 (by decide) rfl (fun c46 => ?_) (fun c46 => ?_)
      · refine ax_lconst (q := 159) (v := 0) dX7_join_158 rfl rfl ?_
        exact ax_cvl ((if_neg c45).trans (if_pos c46)) K47
      · refine ax_lconst (q := 155) (v := 1) dX7_join_154 rfl rfl ?_
        refine ax_goto (tgt := 159) dX7_join_155 (by decide) ?_
        exact ax_cvl ((if_neg c45).trans (if_neg c46)) K47
  · refine ax_tableOut (tgt := 164) dX7_join_1 (by have z0 := ax_net (k := 2) (2) (by decide) c1; have z1 := ax_net (k := 3) (3) (by decide) c5; have z2 := ax_net (k := 4) (4) (by decide) c9; have z3 := ax_net (k := 5) (5) (by decide) c13; have z4 := ax_net (k := 6) (6) (by decide) c19; have z5 := ax_net (k := 7) (7) (by decide) c25; have z6 := ax_net (k := 8) (8) (by decide) c31; have z7 := ax_net (k := 9) (9) (by decide) c37; have z8 := ax_net (k := 10) (10) (by decide) c44; omega) (by decide) ?_
    refine ax_lload_n (q := 165) (i := 1) dX7_join_164 rfl rfl rfl ?_
    refine ax_lconst (q := 166) (v := 0) dX7_join_165 rfl rfl ?_
    refine ax_lcmp (q := 167) dX7_join_166 rfl ?_
    have K53 : ax_W shC (d + 1) mX7_join Q 181 [some (ax_i a0), some (ax_l a1), none, some (ax_l a2), none, none, none] [ax_l (if (¬ (lg_cmp a1 (0 : Int64)) = 0) then (1 : Int64) else (if ((lg_cmp a2 (0 : Int64)) = 0) then (0 : Int64) else (1 : Int64)))] σ := by
      refine ax_lstore (q := 183) (lv2 := [some (ax_i a0), some (ax_l a1), none, some (ax_l a2), none, some (ax_l (if (¬ (lg_cmp a1 (0 : Int64)) = 0) then (1 : Int64) else (if ((lg_cmp a2 (0 : Int64)) = 0) then (0 : Int64) else (1 : Int64)))), none]) dX7_join_181 rfl (by decide) rfl rfl ?_
      refine ax_lload (q := 185) dX7_join_183 rfl rfl ?_
      refine ax_ldc2 (q := 188) dX7_join_185 rfl kc_X7_58 ?_
      refine ax_lcmp (q := 189) dX7_join_188 rfl ?_
      refine ax_if_le (tgt := 195) (q := 192) dX7_join_189 (by decide) rfl (fun c54 => ?_) (fun c54 => ?_)
      · refine ax_lload (q := 197) dX7_join_195 rfl rfl ?_
        refine ax_ldc2 (q := 200) dX7_join_197 rfl kc_X7_61 ?_
        refine ax_lcmp (q := 201) dX7_join_200 rfl ?_
        have K56 : ax_W shC (d + 1) mX7_join Q 212 [some (ax_i a0), some (ax_l a1), none, some (ax_l a2), none, some (ax_l (if (¬ (lg_cmp a1 (0 : Int64)) = 0) then (1 : Int64) else (if ((lg_cmp a2 (0 : Int64)) = 0) then (0 : Int64) else (1 : Int64)))), none] [ax_i (if (0 ≤ (lg_cmp (if (¬ (lg_cmp a1 (0 : Int64)) = 0) then (1 : Int64) else (if ((lg_cmp a2 (0 : Int64)) = 0) then (0 : Int64) else (1 : Int64))) (-1000000 : Int64))) then (Int64.toInt32 (if (¬ (lg_cmp a1 (0 : Int64)) = 0) then (1 : Int64) else (if ((lg_cmp a2 (0 : Int64)) = 0) then (0 : Int64) else (1 : Int64)))) else (-1000000 : Int32))] σ := by
          exact ax_iret dX7_join_212 rfl rfl (k20 c1 c5 c9 c13 c19 c25 c31 c37 c44 c54)
        refine ax_if_ge (tgt := 209) (q := 204) dX7_join_201 (by decide) rfl (fun c55 => ?_) (fun c55 => ?_)
        · refine ax_lload (q := 211) dX7_join_209 rfl rfl ?_
          refine ax_l2i (q := 212) dX7_join_211 rfl ?_
          exact ax_cv (if_pos c55) K56
        · refine ax_ldc (q := 206) dX7_join_204 rfl kc_X7_63 ?_
          refine ax_goto (tgt := 212) dX7_join_206 (by decide) ?_
          exact ax_cv (if_neg c55) K56
      · refine ax_ldc (q := 194) dX7_join_192 rfl kc_X7_60 ?_
        exact ax_iret dX7_join_194 rfl rfl (k21 c1 c5 c9 c13 c19 c25 c31 c37 c44 c54)
    refine ax_if_ne (tgt := 176) (q := 170) dX7_join_167 (by decide) rfl (fun c51 => ?_) (fun c51 => ?_)
    · refine ax_lconst (q := 177) (v := 1) dX7_join_176 rfl rfl ?_
      refine ax_goto (tgt := 181) dX7_join_177 (by decide) ?_
      exact ax_cvl (if_pos c51) K53
    · refine ax_lload_n (q := 171) (i := 3) dX7_join_170 rfl rfl rfl ?_
      refine ax_lconst (q := 172) (v := 0) dX7_join_171 rfl rfl ?_
      refine ax_lcmp (q := 173) dX7_join_172 rfl ?_
      refine ax_if_eq (tgt := 180) (q := 176) dX7_join_173 (by decide) rfl (fun c52 => ?_) (fun c52 => ?_)
      · refine ax_lconst (q := 181) (v := 0) dX7_join_180 rfl rfl ?_
        exact ax_cvl ((if_neg c51).trans (if_pos c52)) K53
      · refine ax_lconst (q := 177) (v := 1) dX7_join_176 rfl rfl ?_
        refine ax_goto (tgt := 181) dX7_join_177 (by decide) ?_
        exact ax_cvl ((if_neg c51).trans (if_neg c52)) K53
set_option maxRecDepth 20000 in
theorem s_X7_pop_0 {d : Nat} (hd : 0 ≤ d) {Q : Option ax_V → ax_S → Prop} (σ : ax_S)  (h1 : ((1 : Int32) ≤ (σ.1 4 6)) → vp_in ((σ.1 4 6) - (1 : Int32)) 64) (k2 : ((1 : Int32) ≤ (σ.1 4 6)) → Q (some (ax_i (σ.1 22 (Int32.toNatClampNeg ((σ.1 4 6) - (1 : Int32)))))) (ax_ui σ 4 6 ((σ.1 4 6) - (1 : Int32)))) (k3 : (¬ ((1 : Int32) ≤ (σ.1 4 6))) → Q (some (ax_i (0 : Int32))) σ) : ax_W shC (d + 1) mX7_pop Q 0 [some (ax_r 4)] [] σ := by
  refine ax_aload_n (q := 1) (i := 0) dX7_pop_0 rfl rfl rfl ?_
  refine ax_get (q := 4) (k := 4) (j := 6) (v := ax_i (σ.1 4 6)) dX7_pop_1 rfl shC_4 rfl rfl rfl (by decide) fl_X7_43 ?_
  refine ax_iconst (q := 5) dX7_pop_4 rfl ki_1 ?_
  refine ax_icmp_ge (tgt := 10) (q := 8) dX7_pop_5 (by decide) rfl (fun c1 => ?_) (fun c1 => ?_)
  · refine ax_aload_n (q := 11) (i := 0) dX7_pop_10 rfl rfl rfl ?_
    refine ax_dupr (q := 12) dX7_pop_11 rfl ?_
    refine ax_get (q := 15) (k := 4) (j := 6) (v := ax_i (σ.1 4 6)) dX7_pop_12 rfl shC_4 rfl rfl rfl (by decide) fl_X7_43 ?_
    refine ax_iconst (q := 16) dX7_pop_15 rfl ki_1 ?_
    refine ax_isub (q := 17) dX7_pop_16 rfl ?_
    refine ax_puti (q := 20) (k := 4) (j := 6) dX7_pop_17 rfl shC_4 rfl rfl (by decide) fl_X7_43 rfl rfl rfl rfl ?_
    refine ax_aload_n (q := 21) (i := 0) dX7_pop_20 rfl rfl rfl ?_
    refine ax_get (q := 24) (k := 4) (j := 3) (v := ax_r 22) dX7_pop_21 rfl shC_4 rfl rfl rfl (by decide) fl_X7_23 ?_
    refine ax_aload_n (q := 25) (i := 0) dX7_pop_24 rfl rfl rfl ?_
    refine ax_get (q := 28) (k := 4) (j := 6) (v := ax_i ((σ.1 4 6) - (1 : Int32))) dX7_pop_25 rfl shC_4 rfl rfl rfl (by decide) fl_X7_43 ?_
    refine ax_iald (q := 29) (a := (Int32.toNatClampNeg ((σ.1 4 6) - (1 : Int32)))) (v := (σ.1 22 (Int32.toNatClampNeg ((σ.1 4 6) - (1 : Int32))))) dX7_pop_28 rfl shC_22 (h1 c1) rfl rfl ?_
    exact ax_iret dX7_pop_29 rfl rfl (k2 c1)
  · refine ax_iconst (q := 9) dX7_pop_8 rfl ki_0 ?_
    exact ax_iret dX7_pop_9 rfl rfl (k3 c1)
set_option maxRecDepth 20000 in
theorem s_X7_push_0 {d : Nat} (hd : 0 ≤ d) {Q : Option ax_V → ax_S → Prop} (σ : ax_S) (a0 : Int32) (k1 : ((Int32.ofNat 64) ≤ (σ.1 4 6)) → Q none σ) (h2 : (¬ ((Int32.ofNat 64) ≤ (σ.1 4 6))) → vp_in (σ.1 4 6) 64) (k3 : (¬ ((Int32.ofNat 64) ≤ (σ.1 4 6))) → Q none (ax_ui (ax_ui σ 22 (Int32.toNatClampNeg (σ.1 4 6)) a0) 4 6 ((σ.1 4 6) + (1 : Int32)))) : ax_W shC (d + 1) mX7_push Q 0 [some (ax_r 4), some (ax_i a0)] [] σ := by
  refine ax_aload_n (q := 1) (i := 0) dX7_push_0 rfl rfl rfl ?_
  refine ax_get (q := 4) (k := 4) (j := 6) (v := ax_i (σ.1 4 6)) dX7_push_1 rfl shC_4 rfl rfl rfl (by decide) fl_X7_43 ?_
  refine ax_aload_n (q := 5) (i := 0) dX7_push_4 rfl rfl rfl ?_
  refine ax_get (q := 8) (k := 4) (j := 3) (v := ax_r 22) dX7_push_5 rfl shC_4 rfl rfl rfl (by decide) fl_X7_23 ?_
  refine ax_alen (q := 9) dX7_push_8 rfl shC_22 ?_
  refine ax_icmp_ge (tgt := 32) (q := 12) dX7_push_9 (by decide) rfl (fun c1 => ?_) (fun c1 => ?_)
  · exact ax_vret dX7_push_32 rfl (k1 c1)
  · refine ax_aload_n (q := 13) (i := 0) dX7_push_12 rfl rfl rfl ?_
    refine ax_get (q := 16) (k := 4) (j := 3) (v := ax_r 22) dX7_push_13 rfl shC_4 rfl rfl rfl (by decide) fl_X7_23 ?_
    refine ax_aload_n (q := 17) (i := 0) dX7_push_16 rfl rfl rfl ?_
    refine ax_get (q := 20) (k := 4) (j := 6) (v := ax_i (σ.1 4 6)) dX7_push_17 rfl shC_4 rfl rfl rfl (by decide) fl_X7_43 ?_
    refine ax_iload_n (q := 21) (i := 1) dX7_push_20 rfl rfl rfl ?_
    refine ax_iast (q := 22) (a := (Int32.toNatClampNeg (σ.1 4 6))) dX7_push_21 rfl shC_22 (h2 c1) rfl ?_
    refine ax_aload_n (q := 23) (i := 0) dX7_push_22 rfl rfl rfl ?_
    refine ax_dupr (q := 24) dX7_push_23 rfl ?_
    refine ax_get (q := 27) (k := 4) (j := 6) (v := ax_i (σ.1 4 6)) dX7_push_24 rfl shC_4 rfl rfl rfl (by decide) fl_X7_43 ?_
    refine ax_iconst (q := 28) dX7_push_27 rfl ki_1 ?_
    refine ax_iadd (q := 29) dX7_push_28 rfl ?_
    refine ax_puti (q := 32) (k := 4) (j := 6) dX7_push_29 rfl shC_4 rfl rfl (by decide) fl_X7_43 rfl rfl rfl rfl ?_
    exact ax_vret dX7_push_32 rfl (k3 c1)
set_option maxRecDepth 20000 in
theorem s_X7_worth_0 {d : Nat} (hd : 0 ≤ d) {Q : Option ax_V → ax_S → Prop} (σ : ax_S)  (k1 : ((σ.1 4 5) < 0) → Q (some (ax_i (0 : Int32))) σ) (k2 : (¬ ((σ.1 4 5) < 0)) → ((σ.1 4 5) < (σ.1 4 4)) → ax_W shC (d + 1) mX7_worth Q 36 [some (ax_r 4), some (ax_i ((σ.1 4 5) * (240 : Int32))), some (ax_i (0 : Int32)), none, none, none, none] [] (ax_ui σ 4 6 (0 : Int32))) (k3 : (¬ ((σ.1 4 5) < 0)) → (¬ ((σ.1 4 5) < (σ.1 4 4))) → Q (some (ax_i (0 : Int32))) σ) : ax_W shC (d + 1) mX7_worth Q 0 [some (ax_r 4), none, none, none, none, none, none] [] σ := by
  refine ax_aload_n (q := 1) (i := 0) dX7_worth_0 rfl rfl rfl ?_
  refine ax_get (q := 4) (k := 4) (j := 5) (v := ax_i (σ.1 4 5)) dX7_worth_1 rfl shC_4 rfl rfl rfl (by decide) fl_X7_26 ?_
  refine ax_if_lt (tgt := 18) (q := 7) dX7_worth_4 (by decide) rfl (fun c1 => ?_) (fun c1 => ?_)
  · refine ax_iconst (q := 19) dX7_worth_18 rfl ki_0 ?_
    exact ax_iret dX7_worth_19 rfl rfl (k1 c1)
  · refine ax_aload_n (q := 8) (i := 0) dX7_worth_7 rfl rfl rfl ?_
    refine ax_get (q := 11) (k := 4) (j := 5) (v := ax_i (σ.1 4 5)) dX7_worth_8 rfl shC_4 rfl rfl rfl (by decide) fl_X7_26 ?_
    refine ax_aload_n (q := 12) (i := 0) dX7_worth_11 rfl rfl rfl ?_
    refine ax_get (q := 15) (k := 4) (j := 4) (v := ax_i (σ.1 4 4)) dX7_worth_12 rfl shC_4 rfl rfl rfl (by decide) fl_X7_30 ?_
    refine ax_icmp_lt (tgt := 20) (q := 18) dX7_worth_15 (by decide) rfl (fun c2 => ?_) (fun c2 => ?_)
    · refine ax_aload_n (q := 21) (i := 0) dX7_worth_20 rfl rfl rfl ?_
      refine ax_get (q := 24) (k := 4) (j := 5) (v := ax_i (σ.1 4 5)) dX7_worth_21 rfl shC_4 rfl rfl rfl (by decide) fl_X7_26 ?_
      refine ax_sipush (q := 27) dX7_worth_24 rfl ks_240 ?_
      refine ax_imul (q := 28) dX7_worth_27 rfl ?_
      refine ax_istore_n (q := 29) (i := 1) (lv2 := [some (ax_r 4), some (ax_i ((σ.1 4 5) * (240 : Int32))), none, none, none, none, none]) dX7_worth_28 rfl rfl (by decide) rfl rfl ?_
      refine ax_aload_n (q := 30) (i := 0) dX7_worth_29 rfl rfl rfl ?_
      refine ax_iconst (q := 31) dX7_worth_30 rfl ki_0 ?_
      refine ax_puti (q := 34) (k := 4) (j := 6) dX7_worth_31 rfl shC_4 rfl rfl (by decide) fl_X7_43 rfl rfl rfl rfl ?_
      refine ax_iconst (q := 35) dX7_worth_34 rfl ki_0 ?_
      refine ax_istore_n (q := 36) (i := 2) (lv2 := [some (ax_r 4), some (ax_i ((σ.1 4 5) * (240 : Int32))), some (ax_i (0 : Int32)), none, none, none, none]) dX7_worth_35 rfl rfl (by decide) rfl rfl ?_
      exact (k2 c1 c2)
    · refine ax_iconst (q := 19) dX7_worth_18 rfl ki_0 ?_
      exact ax_iret dX7_worth_19 rfl rfl (k3 c1 c2)
set_option maxRecDepth 20000 in
theorem s_X7_worth_36 {d : Nat} (hd : 0 ≤ d) {Q : Option ax_V → ax_S → Prop} (σ : ax_S) (x1 : Int32) (x2 : Int32) (h1 : vp_in (σ.1 4 5) 4) (k2 : ((σ.1 20 (Int32.toNatClampNeg (σ.1 4 5))) ≤ x2) → Q (some (ax_i (0 : Int32))) σ) (h3 : (¬ ((σ.1 20 (Int32.toNatClampNeg (σ.1 4 5))) ≤ x2)) → vp_in (x1 + x2) 960) (k4 : (¬ ((σ.1 20 (Int32.toNatClampNeg (σ.1 4 5))) ≤ x2)) → (¬ ((σ.1 19 (Int32.toNatClampNeg (x1 + x2))) &&& (15 : Int32)) = (13 : Int32)) → (¬ ((σ.1 19 (Int32.toNatClampNeg (x1 + x2))) &&& (15 : Int32)) = (12 : Int32)) → (¬ ((σ.1 19 (Int32.toNatClampNeg (x1 + x2))) &&& (15 : Int32)) = 0) → (¬ ((σ.1 19 (Int32.toNatClampNeg (x1 + x2))) &&& (15 : Int32)) = (1 : Int32)) → (¬ ((σ.1 19 (Int32.toNatClampNeg (x1 + x2))) &&& (15 : Int32)) = (9 : Int32)) → ax_Ct shC d mX7_pop [ax_r 4] (fun r u => ∃ x : Int32, r = some (ax_i x) ∧ ax_W shC (d + 1) mX7_worth Q 184 [some (ax_r 4), some (ax_i x1), some (ax_i x2), some (ax_i ((σ.1 19 (Int32.toNatClampNeg (x1 + x2))) &&& (15 : Int32))), none, none, none] (ax_i x :: []) u) σ) (k5 : (¬ ((σ.1 20 (Int32.toNatClampNeg (σ.1 4 5))) ≤ x2)) → (¬ ((σ.1 19 (Int32.toNatClampNeg (x1 + x2))) &&& (15 : Int32)) = (13 : Int32)) → (¬ ((σ.1 19 (Int32.toNatClampNeg (x1 + x2))) &&& (15 : Int32)) = (12 : Int32)) → (¬ ((σ.1 19 (Int32.toNatClampNeg (x1 + x2))) &&& (15 : Int32)) = 0) → (¬ ((σ.1 19 (Int32.toNatClampNeg (x1 + x2))) &&& (15 : Int32)) = (1 : Int32)) → (¬ (¬ ((σ.1 19 (Int32.toNatClampNeg (x1 + x2))) &&& (15 : Int32)) = (9 : Int32))) → ax_Ct shC d mX7_pop [ax_r 4] (fun r u => ∃ x : Int32, r = some (ax_i x) ∧ ax_W shC (d + 1) mX7_worth Q 173 [some (ax_r 4), some (ax_i x1), some (ax_i x2), none, none, none, none] (ax_i x :: [ax_i (1 : Int32), ax_r 4]) u) σ) (h6 : (¬ ((σ.1 20 (Int32.toNatClampNeg (σ.1 4 5))) ≤ x2)) → (¬ ((σ.1 19 (Int32.toNatClampNeg (x1 + x2))) &&& (15 : Int32)) = (13 : Int32)) → (¬ ((σ.1 19 (Int32.toNatClampNeg (x1 + x2))) &&& (15 : Int32)) = (12 : Int32)) → (¬ ((σ.1 19 (Int32.toNatClampNeg (x1 + x2))) &&& (15 : Int32)) = 0) → (¬ (¬ ((σ.1 19 (Int32.toNatClampNeg (x1 + x2))) &&& (15 : Int32)) = (1 : Int32))) → (¬ ((Int32.ofNat 6) ≤ ((σ.1 19 (Int32.toNatClampNeg (x1 + x2))) >>> ((4 : Int32) &&& 31)))) → vp_in ((σ.1 19 (Int32.toNatClampNeg (x1 + x2))) >>> ((4 : Int32) &&& 31)) 6) (k7 : (¬ ((σ.1 20 (Int32.toNatClampNeg (σ.1 4 5))) ≤ x2)) → (¬ ((σ.1 19 (Int32.toNatClampNeg (x1 + x2))) &&& (15 : Int32)) = (13 : Int32)) → (¬ ((σ.1 19 (Int32.toNatClampNeg (x1 + x2))) &&& (15 : Int32)) = (12 : Int32)) → (¬ ((σ.1 19 (Int32.toNatClampNeg (x1 + x2))) &&& (15 : Int32)) = 0) → (¬ (¬ ((σ.1 19 (Int32.toNatClampNeg (x1 + x2))) &&& (15 : Int32)) = (1 : Int32))) → ax_Ct shC d mX7_push [ax_r 4, ax_i (if ((Int32.ofNat 6) ≤ ((σ.1 19 (Int32.toNatClampNeg (x1 + x2))) >>> ((4 : Int32) &&& 31))) then (0 : Int32) else (σ.1 21 (Int32.toNatClampNeg ((σ.1 19 (Int32.toNatClampNeg (x1 + x2))) >>> ((4 : Int32) &&& 31)))))] (fun r u => r = none ∧ ax_W shC (d + 1) mX7_worth Q 158 [some (ax_r 4), some (ax_i x1), some (ax_i x2), none, none, none, none] [] u) σ) (k8 : (¬ ((σ.1 20 (Int32.toNatClampNeg (σ.1 4 5))) ≤ x2)) → (¬ ((σ.1 19 (Int32.toNatClampNeg (x1 + x2))) &&& (15 : Int32)) = (13 : Int32)) → (¬ ((σ.1 19 (Int32.toNatClampNeg (x1 + x2))) &&& (15 : Int32)) = (12 : Int32)) → (¬ (¬ ((σ.1 19 (Int32.toNatClampNeg (x1 + x2))) &&& (15 : Int32)) = 0)) → ax_Ct shC d mX7_push [ax_r 4, ax_i ((σ.1 19 (Int32.toNatClampNeg (x1 + x2))) >>> ((4 : Int32) &&& 31))] (fun r u => r = none ∧ ax_W shC (d + 1) mX7_worth Q 125 [some (ax_r 4), some (ax_i x1), some (ax_i x2), none, none, none, none] [] u) σ) (k9 : (¬ ((σ.1 20 (Int32.toNatClampNeg (σ.1 4 5))) ≤ x2)) → (¬ ((σ.1 19 (Int32.toNatClampNeg (x1 + x2))) &&& (15 : Int32)) = (13 : Int32)) → (¬ (¬ ((σ.1 19 (Int32.toNatClampNeg (x1 + x2))) &&& (15 : Int32)) = (12 : Int32))) → ax_Ct shC d mX7_pop [ax_r 4] (fun r u => ∃ x : Int32, r = some (ax_i x) ∧ ax_W shC (d + 1) mX7_worth Q 94 [some (ax_r 4), some (ax_i x1), some (ax_i x2), none, some (ax_i ((σ.1 19 (Int32.toNatClampNeg (x1 + x2))) >>> ((4 : Int32) &&& 31))), none, none] (ax_i x :: []) u) σ) (k10 : (¬ ((σ.1 20 (Int32.toNatClampNeg (σ.1 4 5))) ≤ x2)) → (¬ (¬ ((σ.1 19 (Int32.toNatClampNeg (x1 + x2))) &&& (15 : Int32)) = (13 : Int32))) → ax_Ct shC d mX7_pop [ax_r 4] (fun r u => ∃ x : Int32, r = some (ax_i x) ∧ ax_W shC (d + 1) mX7_worth Q 83 [none, none, none, none, none, none, none] (ax_i x :: []) u) σ) : ax_W shC (d + 1) mX7_worth Q 36 [some (ax_r 4), some (ax_i x1), some (ax_i x2), none, none, none, none] [] σ := by
  refine ax_iload_n (q := 37) (i := 2) dX7_worth_36 rfl rfl rfl ?_
  refine ax_aload_n (q := 38) (i := 0) dX7_worth_37 rfl rfl rfl ?_
  refine ax_get (q := 41) (k := 4) (j := 1) (v := ax_r 20) dX7_worth_38 rfl shC_4 rfl rfl rfl (by decide) fl_X7_17 ?_
  refine ax_aload_n (q := 42) (i := 0) dX7_worth_41 rfl rfl rfl ?_
  refine ax_get (q := 45) (k := 4) (j := 5) (v := ax_i (σ.1 4 5)) dX7_worth_42 rfl shC_4 rfl rfl rfl (by decide) fl_X7_26 ?_
  refine ax_iald (q := 46) (a := (Int32.toNatClampNeg (σ.1 4 5))) (v := (σ.1 20 (Int32.toNatClampNeg (σ.1 4 5)))) dX7_worth_45 rfl shC_20 h1 rfl rfl ?_
  refine ax_icmp_ge (tgt := 208) (q := 49) dX7_worth_46 (by decide) rfl (fun c1 => ?_) (fun c1 => ?_)
  · refine ax_iconst (q := 209) dX7_worth_208 rfl ki_0 ?_
    exact ax_iret dX7_worth_209 rfl rfl (k2 c1)
  · refine ax_aload_n (q := 50) (i := 0) dX7_worth_49 rfl rfl rfl ?_
    refine ax_get (q := 53) (k := 4) (j := 0) (v := ax_r 19) dX7_worth_50 rfl shC_4 rfl rfl rfl (by decide) fl_X7_11 ?_
    refine ax_iload_n (q := 54) (i := 1) dX7_worth_53 rfl rfl rfl ?_
    refine ax_iload_n (q := 55) (i := 2) dX7_worth_54 rfl rfl rfl ?_
    refine ax_iadd (q := 56) dX7_worth_55 rfl ?_
    refine ax_iald (q := 57) (a := (Int32.toNatClampNeg (x1 + x2))) (v := (σ.1 19 (Int32.toNatClampNeg (x1 + x2)))) dX7_worth_56 rfl shC_19 (h3 c1) rfl rfl ?_
    refine ax_bipush (q := 59) dX7_worth_57 rfl kb_15 ?_
    refine ax_iand (q := 60) dX7_worth_59 rfl ?_
    refine ax_istore_n (q := 61) (i := 3) (lv2 := [some (ax_r 4), some (ax_i x1), some (ax_i x2), some (ax_i ((σ.1 19 (Int32.toNatClampNeg (x1 + x2))) &&& (15 : Int32))), none, none, none]) dX7_worth_60 rfl rfl (by decide) rfl rfl ?_
    refine ax_aload_n (q := 62) (i := 0) dX7_worth_61 rfl rfl rfl ?_
    refine ax_get (q := 65) (k := 4) (j := 0) (v := ax_r 19) dX7_worth_62 rfl shC_4 rfl rfl rfl (by decide) fl_X7_11 ?_
    refine ax_iload_n (q := 66) (i := 1) dX7_worth_65 rfl rfl rfl ?_
    refine ax_iload_n (q := 67) (i := 2) dX7_worth_66 rfl rfl rfl ?_
    refine ax_iadd (q := 68) dX7_worth_67 rfl ?_
    refine ax_iald (q := 69) (a := (Int32.toNatClampNeg (x1 + x2))) (v := (σ.1 19 (Int32.toNatClampNeg (x1 + x2)))) dX7_worth_68 rfl shC_19 (h3 c1) rfl rfl ?_
    refine ax_iconst (q := 70) dX7_worth_69 rfl ki_4 ?_
    refine ax_ishr (q := 71) dX7_worth_70 rfl ?_
    refine ax_istore (q := 73) (lv2 := [some (ax_r 4), some (ax_i x1), some (ax_i x2), some (ax_i ((σ.1 19 (Int32.toNatClampNeg (x1 + x2))) &&& (15 : Int32))), some (ax_i ((σ.1 19 (Int32.toNatClampNeg (x1 + x2))) >>> ((4 : Int32) &&& 31))), none, none]) dX7_worth_71 rfl (by decide) rfl rfl ?_
    refine ax_iload_n (q := 74) (i := 3) dX7_worth_73 rfl rfl rfl ?_
    refine ax_bipush (q := 76) dX7_worth_74 rfl kb_13 ?_
    refine ax_icmp_ne (tgt := 84) (q := 79) dX7_worth_76 (by decide) rfl (fun c2 => ?_) (fun c2 => ?_)
    · refine ax_iload_n (q := 85) (i := 3) dX7_worth_84 rfl rfl rfl ?_
      refine ax_bipush (q := 87) dX7_worth_85 rfl kb_12 ?_
      refine ax_icmp_ne (tgt := 115) (q := 90) dX7_worth_87 (by decide) rfl (fun c3 => ?_) (fun c3 => ?_)
      · refine ax_iload_n (q := 116) (i := 3) dX7_worth_115 rfl rfl rfl ?_
        refine ax_if_ne (tgt := 128) (q := 119) dX7_worth_116 (by decide) rfl (fun c4 => ?_) (fun c4 => ?_)
        · refine ax_iload_n (q := 129) (i := 3) dX7_worth_128 rfl rfl rfl ?_
          refine ax_iconst (q := 130) dX7_worth_129 rfl ki_1 ?_
          refine ax_icmp_ne (tgt := 161) (q := 133) dX7_worth_130 (by decide) rfl (fun c5 => ?_) (fun c5 => ?_)
          · refine ax_iload_n (q := 162) (i := 3) dX7_worth_161 rfl rfl rfl ?_
            refine ax_bipush (q := 164) dX7_worth_162 rfl kb_9 ?_
            refine ax_icmp_ne (tgt := 180) (q := 167) dX7_worth_164 (by decide) rfl (fun c6 => ?_) (fun c6 => ?_)
            · refine ax_aload_n (q := 181) (i := 0) dX7_worth_180 rfl rfl rfl ?_
              refine ax_fg (lv2 := [some (ax_r 4), some (ax_i x1), some (ax_i x2), some (ax_i ((σ.1 19 (Int32.toNatClampNeg (x1 + x2))) &&& (15 : Int32))), none, none, none]) ⟨rfl, rfl, rfl, rfl, trivial⟩ ?_
              exact ax_callVci (q := 184) (As := []) (st := []) dX7_worth_181 rfl lk_X7_46 shC_4 rfl rfl rfl rfl (Nat.le_of_ble_eq_true rfl) (k4 c1 c2 c3 c4 c5 c6)
            · refine ax_aload_n (q := 168) (i := 0) dX7_worth_167 rfl rfl rfl ?_
              refine ax_iconst (q := 169) dX7_worth_168 rfl ki_1 ?_
              refine ax_aload_n (q := 170) (i := 0) dX7_worth_169 rfl rfl rfl ?_
              refine ax_fg (lv2 := [some (ax_r 4), some (ax_i x1), some (ax_i x2), none, none, none, none]) ⟨rfl, rfl, rfl, trivial⟩ ?_
              exact ax_callVci (q := 173) (As := []) (st := [ax_i (1 : Int32), ax_r 4]) dX7_worth_170 rfl lk_X7_46 shC_4 rfl rfl rfl rfl (Nat.le_of_ble_eq_true rfl) (k5 c1 c2 c3 c4 c5 c6)
          · refine ax_aload_n (q := 134) (i := 0) dX7_worth_133 rfl rfl rfl ?_
            refine ax_iload (q := 136) dX7_worth_134 rfl rfl ?_
            refine ax_aload_n (q := 137) (i := 0) dX7_worth_136 rfl rfl rfl ?_
            refine ax_get (q := 140) (k := 4) (j := 2) (v := ax_r 21) dX7_worth_137 rfl shC_4 rfl rfl rfl (by decide) fl_X7_20 ?_
            refine ax_alen (q := 141) dX7_worth_140 rfl shC_21 ?_
            have K8 : ax_W shC (d + 1) mX7_worth Q 155 [some (ax_r 4), some (ax_i x1), some (ax_i x2), some (ax_i ((σ.1 19 (Int32.toNatClampNeg (x1 + x2))) &&& (15 : Int32))), some (ax_i ((σ.1 19 (Int32.toNatClampNeg (x1 + x2))) >>> ((4 : Int32) &&& 31))), none, none] [ax_i (if ((Int32.ofNat 6) ≤ ((σ.1 19 (Int32.toNatClampNeg (x1 + x2))) >>> ((4 : Int32) &&& 31))) then (0 : Int32) else (σ.1 21 (Int32.toNatClampNeg ((σ.1 19 (Int32.toNatClampNeg (x1 + x2))) >>> ((4 : Int32) &&& 31))))), ax_r 4] σ := by
              refine ax_fg (lv2 := [some (ax_r 4), some (ax_i x1), some (ax_i x2), none, none, none, none]) ⟨rfl, rfl, rfl, trivial⟩ ?_
              exact ax_callVcv (q := 158) (As := [ax_i (if ((Int32.ofNat 6) ≤ ((σ.1 19 (Int32.toNatClampNeg (x1 + x2))) >>> ((4 : Int32) &&& 31))) then (0 : Int32) else (σ.1 21 (Int32.toNatClampNeg ((σ.1 19 (Int32.toNatClampNeg (x1 + x2))) >>> ((4 : Int32) &&& 31)))))]) (st := []) dX7_worth_155 rfl lk_X7_50 shC_4 rfl rfl rfl rfl (Nat.le_of_ble_eq_true rfl) (k7 c1 c2 c3 c4 c5)
            refine ax_icmp_ge (tgt := 154) (q := 144) dX7_worth_141 (by decide) rfl (fun c7 => ?_) (fun c7 => ?_)
            · refine ax_iconst (q := 155) dX7_worth_154 rfl ki_0 ?_
              exact ax_cv (if_pos c7) K8
            · refine ax_aload_n (q := 145) (i := 0) dX7_worth_144 rfl rfl rfl ?_
              refine ax_get (q := 148) (k := 4) (j := 2) (v := ax_r 21) dX7_worth_145 rfl shC_4 rfl rfl rfl (by decide) fl_X7_20 ?_
              refine ax_iload (q := 150) dX7_worth_148 rfl rfl ?_
              refine ax_iald (q := 151) (a := (Int32.toNatClampNeg ((σ.1 19 (Int32.toNatClampNeg (x1 + x2))) >>> ((4 : Int32) &&& 31)))) (v := (σ.1 21 (Int32.toNatClampNeg ((σ.1 19 (Int32.toNatClampNeg (x1 + x2))) >>> ((4 : Int32) &&& 31))))) dX7_worth_150 rfl shC_21 (h6 c1 c2 c3 c4 c5 c7) rfl rfl ?_
              refine ax_goto (tgt := 155) dX7_worth_151 (by decide) ?_
              exact ax_cv (if_neg c7) K8
        · refine ax_aload_n (q := 120) (i := 0) dX7_worth_119 rfl rfl rfl ?_
          refine ax_iload (q := 122) dX7_worth_120 rfl rfl ?_
          refine ax_fg (lv2 := [some (ax_r 4), some (ax_i x1), some (ax_i x2), none, none, none, none]) ⟨rfl, rfl, rfl, trivial⟩ ?_
          exact ax_callVcv (q := 125) (As := [ax_i ((σ.1 19 (Int32.toNatClampNeg (x1 + x2))) >>> ((4 : Int32) &&& 31))]) (st := []) dX7_worth_122 rfl lk_X7_50 shC_4 rfl rfl rfl rfl (Nat.le_of_ble_eq_true rfl) (k8 c1 c2 c3 c4)
      · refine ax_aload_n (q := 91) (i := 0) dX7_worth_90 rfl rfl rfl ?_
        refine ax_fg (lv2 := [some (ax_r 4), some (ax_i x1), some (ax_i x2), none, some (ax_i ((σ.1 19 (Int32.toNatClampNeg (x1 + x2))) >>> ((4 : Int32) &&& 31))), none, none]) ⟨rfl, rfl, rfl, rfl, trivial⟩ ?_
        exact ax_callVci (q := 94) (As := []) (st := []) dX7_worth_91 rfl lk_X7_46 shC_4 rfl rfl rfl rfl (Nat.le_of_ble_eq_true rfl) (k9 c1 c2 c3)
    · refine ax_aload_n (q := 80) (i := 0) dX7_worth_79 rfl rfl rfl ?_
      refine ax_fg (lv2 := [none, none, none, none, none, none, none]) trivial ?_
      exact ax_callVci (q := 83) (As := []) (st := []) dX7_worth_80 rfl lk_X7_46 shC_4 rfl rfl rfl rfl (Nat.le_of_ble_eq_true rfl) (k10 c1 c2)
set_option maxRecDepth 20000 in
theorem s_X7_worth_125 {d : Nat} (hd : 0 ≤ d) {Q : Option ax_V → ax_S → Prop} (σ : ax_S) (x1 : Int32) (x2 : Int32) (k1 : ax_W shC (d + 1) mX7_worth Q 36 [some (ax_r 4), some (ax_i x1), some (ax_i (x2 + (1 : Int32))), none, none, none, none] [] σ) : ax_W shC (d + 1) mX7_worth Q 125 [some (ax_r 4), some (ax_i x1), some (ax_i x2), none, none, none, none] [] σ := by
  refine ax_goto (tgt := 202) dX7_worth_125 (by decide) ?_
  refine ax_iincK (q := 205) (lv2 := [some (ax_r 4), some (ax_i x1), some (ax_i (x2 + (1 : Int32))), none, none, none, none]) dX7_worth_202 rfl rfl ki_1 (by decide) rfl rfl ?_
  refine ax_goto (tgt := 36) dX7_worth_205 (by decide) ?_
  exact k1
set_option maxRecDepth 20000 in
theorem s_X7_worth_158 {d : Nat} (hd : 0 ≤ d) {Q : Option ax_V → ax_S → Prop} (σ : ax_S) (x1 : Int32) (x2 : Int32) (k1 : ax_W shC (d + 1) mX7_worth Q 36 [some (ax_r 4), some (ax_i x1), some (ax_i (x2 + (1 : Int32))), none, none, none, none] [] σ) : ax_W shC (d + 1) mX7_worth Q 158 [some (ax_r 4), some (ax_i x1), some (ax_i x2), none, none, none, none] [] σ := by
  refine ax_goto (tgt := 202) dX7_worth_158 (by decide) ?_
  refine ax_iincK (q := 205) (lv2 := [some (ax_r 4), some (ax_i x1), some (ax_i (x2 + (1 : Int32))), none, none, none, none]) dX7_worth_202 rfl rfl ki_1 (by decide) rfl rfl ?_
  refine ax_goto (tgt := 36) dX7_worth_205 (by decide) ?_
  exact k1
set_option maxRecDepth 20000 in
theorem s_X7_worth_173 {d : Nat} (hd : 0 ≤ d) {Q : Option ax_V → ax_S → Prop} (σ : ax_S) (x1 : Int32) (x2 : Int32) (rr : Int32) (y0 : Int32) (k1 : ax_Ct shC d mX7_push [ax_r 4, ax_i (y0 - rr)] (fun r u => r = none ∧ ax_W shC (d + 1) mX7_worth Q 177 [some (ax_r 4), some (ax_i x1), some (ax_i x2), none, none, none, none] [] u) σ) : ax_W shC (d + 1) mX7_worth Q 173 [some (ax_r 4), some (ax_i x1), some (ax_i x2), none, none, none, none] [ax_i rr, ax_i y0, ax_r 4] σ := by
  refine ax_isub (q := 174) dX7_worth_173 rfl ?_
  exact ax_callVcv (q := 177) (As := [ax_i (y0 - rr)]) (st := []) dX7_worth_174 rfl lk_X7_50 shC_4 rfl rfl rfl rfl (Nat.le_of_ble_eq_true rfl) k1
set_option maxRecDepth 20000 in
theorem s_X7_worth_184 {d : Nat} (hd : 0 ≤ d) {Q : Option ax_V → ax_S → Prop} (σ : ax_S) (x1 : Int32) (x2 : Int32) (x3 : Int32) (rr : Int32) (k1 : ax_Ct shC d mX7_pop [ax_r 4] (fun r u => ∃ x : Int32, r = some (ax_i x) ∧ ax_W shC (d + 1) mX7_worth Q 193 [some (ax_r 4), some (ax_i x1), some (ax_i x2), none, none, some (ax_l (Int32.toInt64 rr)), none] (ax_i x :: [ax_i x3, ax_r 4]) u) σ) : ax_W shC (d + 1) mX7_worth Q 184 [some (ax_r 4), some (ax_i x1), some (ax_i x2), some (ax_i x3), none, none, none] [ax_i rr] σ := by
  refine ax_i2l (q := 185) dX7_worth_184 rfl ?_
  refine ax_lstore (q := 187) (lv2 := [some (ax_r 4), some (ax_i x1), some (ax_i x2), some (ax_i x3), none, some (ax_l (Int32.toInt64 rr)), none]) dX7_worth_185 rfl (by decide) rfl rfl ?_
  refine ax_aload_n (q := 188) (i := 0) dX7_worth_187 rfl rfl rfl ?_
  refine ax_iload_n (q := 189) (i := 3) dX7_worth_188 rfl rfl rfl ?_
  refine ax_aload_n (q := 190) (i := 0) dX7_worth_189 rfl rfl rfl ?_
  refine ax_fg (lv2 := [some (ax_r 4), some (ax_i x1), some (ax_i x2), none, none, some (ax_l (Int32.toInt64 rr)), none]) ⟨rfl, rfl, rfl, rfl, trivial⟩ ?_
  exact ax_callVci (q := 193) (As := []) (st := [ax_i x3, ax_r 4]) dX7_worth_190 rfl lk_X7_46 shC_4 rfl rfl rfl rfl (Nat.le_of_ble_eq_true rfl) k1
set_option maxRecDepth 20000 in
theorem s_X7_worth_83 {d : Nat} (hd : 0 ≤ d) {Q : Option ax_V → ax_S → Prop} (σ : ax_S) (rr : Int32) (k1 : Q (some (ax_i rr)) σ) : ax_W shC (d + 1) mX7_worth Q 83 [none, none, none, none, none, none, none] [ax_i rr] σ := by
  exact ax_iret dX7_worth_83 rfl rfl k1
set_option maxRecDepth 20000 in
theorem s_X7_worth_94 {d : Nat} (hd : 0 ≤ d) {Q : Option ax_V → ax_S → Prop} (σ : ax_S) (x1 : Int32) (x2 : Int32) (x4 : Int32) (rr : Int32) (k1 : ax_W shC (d + 1) mX7_worth Q 36 [some (ax_r 4), some (ax_i x1), some (ax_i ((if (¬ rr = 0) then x2 else (if (x4 ≤ x2) then x2 else (x4 - (1 : Int32)))) + (1 : Int32))), none, none, none, none] [] σ) : ax_W shC (d + 1) mX7_worth Q 94 [some (ax_r 4), some (ax_i x1), some (ax_i x2), none, some (ax_i x4), none, none] [ax_i rr] σ := by
  have K3 : ax_W shC (d + 1) mX7_worth Q 111 [some (ax_r 4), some (ax_i x1), some (ax_i x2), none, some (ax_i x4), none, none] [ax_i (if (¬ rr = 0) then x2 else (if (x4 ≤ x2) then x2 else (x4 - (1 : Int32))))] σ := by
    refine ax_istore_n (q := 112) (i := 2) (lv2 := [some (ax_r 4), some (ax_i x1), some (ax_i (if (¬ rr = 0) then x2 else (if (x4 ≤ x2) then x2 else (x4 - (1 : Int32))))), none, some (ax_i x4), none, none]) dX7_worth_111 rfl rfl (by decide) rfl rfl ?_
    refine ax_goto (tgt := 202) dX7_worth_112 (by decide) ?_
    refine ax_iincK (q := 205) (lv2 := [some (ax_r 4), some (ax_i x1), some (ax_i ((if (¬ rr = 0) then x2 else (if (x4 ≤ x2) then x2 else (x4 - (1 : Int32)))) + (1 : Int32))), none, some (ax_i x4), none, none]) dX7_worth_202 rfl rfl ki_1 (by decide) rfl rfl ?_
    refine ax_goto (tgt := 36) dX7_worth_205 (by decide) ?_
    refine ax_fg (lv2 := [some (ax_r 4), some (ax_i x1), some (ax_i ((if (¬ rr = 0) then x2 else (if (x4 ≤ x2) then x2 else (x4 - (1 : Int32)))) + (1 : Int32))), none, none, none, none]) ⟨rfl, rfl, rfl, trivial⟩ ?_
    exact k1
  refine ax_if_ne (tgt := 110) (q := 97) dX7_worth_94 (by decide) rfl (fun c1 => ?_) (fun c1 => ?_)
  · refine ax_iload_n (q := 111) (i := 2) dX7_worth_110 rfl rfl rfl ?_
    exact ax_cv (if_pos c1) K3
  · refine ax_iload (q := 99) dX7_worth_97 rfl rfl ?_
    refine ax_iload_n (q := 100) (i := 2) dX7_worth_99 rfl rfl rfl ?_
    refine ax_icmp_le (tgt := 110) (q := 103) dX7_worth_100 (by decide) rfl (fun c2 => ?_) (fun c2 => ?_)
    · refine ax_iload_n (q := 111) (i := 2) dX7_worth_110 rfl rfl rfl ?_
      exact ax_cv ((if_neg c1).trans (if_pos c2)) K3
    · refine ax_iload (q := 105) dX7_worth_103 rfl rfl ?_
      refine ax_iconst (q := 106) dX7_worth_105 rfl ki_1 ?_
      refine ax_isub (q := 107) dX7_worth_106 rfl ?_
      refine ax_goto (tgt := 111) dX7_worth_107 (by decide) ?_
      exact ax_cv ((if_neg c1).trans (if_neg c2)) K3
set_option maxRecDepth 20000 in
theorem s_X7_worth_177 {d : Nat} (hd : 0 ≤ d) {Q : Option ax_V → ax_S → Prop} (σ : ax_S) (x1 : Int32) (x2 : Int32) (k1 : ax_W shC (d + 1) mX7_worth Q 36 [some (ax_r 4), some (ax_i x1), some (ax_i (x2 + (1 : Int32))), none, none, none, none] [] σ) : ax_W shC (d + 1) mX7_worth Q 177 [some (ax_r 4), some (ax_i x1), some (ax_i x2), none, none, none, none] [] σ := by
  refine ax_goto (tgt := 202) dX7_worth_177 (by decide) ?_
  refine ax_iincK (q := 205) (lv2 := [some (ax_r 4), some (ax_i x1), some (ax_i (x2 + (1 : Int32))), none, none, none, none]) dX7_worth_202 rfl rfl ki_1 (by decide) rfl rfl ?_
  refine ax_goto (tgt := 36) dX7_worth_205 (by decide) ?_
  exact k1
set_option maxRecDepth 20000 in
theorem s_X7_worth_193 {d : Nat} (hd : 0 ≤ d) {Q : Option ax_V → ax_S → Prop} (σ : ax_S) (x1 : Int32) (x2 : Int32) (x5 : Int64) (rr : Int32) (y0 : Int32) (k1 : ax_Ct shC d mX7_join [ax_i y0, ax_l (Int32.toInt64 rr), ax_l x5] (fun r u => ∃ x : Int32, r = some (ax_i x) ∧ ax_W shC (d + 1) mX7_worth Q 199 [some (ax_r 4), some (ax_i x1), some (ax_i x2), none, none, none, none] (ax_i x :: [ax_r 4]) u) σ) : ax_W shC (d + 1) mX7_worth Q 193 [some (ax_r 4), some (ax_i x1), some (ax_i x2), none, none, some (ax_l x5), none] [ax_i rr, ax_i y0, ax_r 4] σ := by
  refine ax_i2l (q := 194) dX7_worth_193 rfl ?_
  refine ax_lload (q := 196) dX7_worth_194 rfl rfl ?_
  refine ax_fg (lv2 := [some (ax_r 4), some (ax_i x1), some (ax_i x2), none, none, none, none]) ⟨rfl, rfl, rfl, trivial⟩ ?_
  exact ax_callSci (q := 199) (As := [ax_i y0, ax_l (Int32.toInt64 rr), ax_l x5]) (st := [ax_r 4]) dX7_worth_196 rfl lk_X7_54 rfl rfl (Nat.le_of_ble_eq_true rfl) k1
set_option maxRecDepth 20000 in
theorem s_X7_worth_199 {d : Nat} (hd : 0 ≤ d) {Q : Option ax_V → ax_S → Prop} (σ : ax_S) (x1 : Int32) (x2 : Int32) (rr : Int32) (k1 : ax_Ct shC d mX7_push [ax_r 4, ax_i rr] (fun r u => r = none ∧ ax_W shC (d + 1) mX7_worth Q 202 [some (ax_r 4), some (ax_i x1), some (ax_i x2), none, none, none, none] [] u) σ) : ax_W shC (d + 1) mX7_worth Q 199 [some (ax_r 4), some (ax_i x1), some (ax_i x2), none, none, none, none] [ax_i rr, ax_r 4] σ := by
  exact ax_callVcv (q := 202) (As := [ax_i rr]) (st := []) dX7_worth_199 rfl lk_X7_50 shC_4 rfl rfl rfl rfl (Nat.le_of_ble_eq_true rfl) k1
set_option maxRecDepth 20000 in
theorem s_X7_worth_202 {d : Nat} (hd : 0 ≤ d) {Q : Option ax_V → ax_S → Prop} (σ : ax_S) (x1 : Int32) (x2 : Int32) (k1 : ax_W shC (d + 1) mX7_worth Q 36 [some (ax_r 4), some (ax_i x1), some (ax_i (x2 + (1 : Int32))), none, none, none, none] [] σ) : ax_W shC (d + 1) mX7_worth Q 202 [some (ax_r 4), some (ax_i x1), some (ax_i x2), none, none, none, none] [] σ := by
  refine ax_iincK (q := 205) (lv2 := [some (ax_r 4), some (ax_i x1), some (ax_i (x2 + (1 : Int32))), none, none, none, none]) dX7_worth_202 rfl rfl ki_1 (by decide) rfl rfl ?_
  refine ax_goto (tgt := 36) dX7_worth_205 (by decide) ?_
  exact k1
def v_J6_bitCount_0f7a4 (a0 : Int32) : Int32 := ((((((((a0 - ((((a0).toUInt32 >>> (((1 : Int32)).toUInt32 &&& Int32.toUInt32 31)).toInt32) &&& (1431655765 : Int32))) &&& (858993459 : Int32)) + (((((a0 - ((((a0).toUInt32 >>> (((1 : Int32)).toUInt32 &&& Int32.toUInt32 31)).toInt32) &&& (1431655765 : Int32)))).toUInt32 >>> (((2 : Int32)).toUInt32 &&& Int32.toUInt32 31)).toInt32) &&& (858993459 : Int32))) + ((((((a0 - ((((a0).toUInt32 >>> (((1 : Int32)).toUInt32 &&& Int32.toUInt32 31)).toInt32) &&& (1431655765 : Int32))) &&& (858993459 : Int32)) + (((((a0 - ((((a0).toUInt32 >>> (((1 : Int32)).toUInt32 &&& Int32.toUInt32 31)).toInt32) &&& (1431655765 : Int32)))).toUInt32 >>> (((2 : Int32)).toUInt32 &&& Int32.toUInt32 31)).toInt32) &&& (858993459 : Int32)))).toUInt32 >>> (((4 : Int32)).toUInt32 &&& Int32.toUInt32 31)).toInt32)) &&& (252645135 : Int32)) + ((((((((a0 - ((((a0).toUInt32 >>> (((1 : Int32)).toUInt32 &&& Int32.toUInt32 31)).toInt32) &&& (1431655765 : Int32))) &&& (858993459 : Int32)) + (((((a0 - ((((a0).toUInt32 >>> (((1 : Int32)).toUInt32 &&& Int32.toUInt32 31)).toInt32) &&& (1431655765 : Int32)))).toUInt32 >>> (((2 : Int32)).toUInt32 &&& Int32.toUInt32 31)).toInt32) &&& (858993459 : Int32))) + ((((((a0 - ((((a0).toUInt32 >>> (((1 : Int32)).toUInt32 &&& Int32.toUInt32 31)).toInt32) &&& (1431655765 : Int32))) &&& (858993459 : Int32)) + (((((a0 - ((((a0).toUInt32 >>> (((1 : Int32)).toUInt32 &&& Int32.toUInt32 31)).toInt32) &&& (1431655765 : Int32)))).toUInt32 >>> (((2 : Int32)).toUInt32 &&& Int32.toUInt32 31)).toInt32) &&& (858993459 : Int32)))).toUInt32 >>> (((4 : Int32)).toUInt32 &&& Int32.toUInt32 31)).toInt32)) &&& (252645135 : Int32))).toUInt32 >>> (((8 : Int32)).toUInt32 &&& Int32.toUInt32 31)).toInt32)) + (((((((((a0 - ((((a0).toUInt32 >>> (((1 : Int32)).toUInt32 &&& Int32.toUInt32 31)).toInt32) &&& (1431655765 : Int32))) &&& (858993459 : Int32)) + (((((a0 - ((((a0).toUInt32 >>> (((1 : Int32)).toUInt32 &&& Int32.toUInt32 31)).toInt32) &&& (1431655765 : Int32)))).toUInt32 >>> (((2 : Int32)).toUInt32 &&& Int32.toUInt32 31)).toInt32) &&& (858993459 : Int32))) + ((((((a0 - ((((a0).toUInt32 >>> (((1 : Int32)).toUInt32 &&& Int32.toUInt32 31)).toInt32) &&& (1431655765 : Int32))) &&& (858993459 : Int32)) + (((((a0 - ((((a0).toUInt32 >>> (((1 : Int32)).toUInt32 &&& Int32.toUInt32 31)).toInt32) &&& (1431655765 : Int32)))).toUInt32 >>> (((2 : Int32)).toUInt32 &&& Int32.toUInt32 31)).toInt32) &&& (858993459 : Int32)))).toUInt32 >>> (((4 : Int32)).toUInt32 &&& Int32.toUInt32 31)).toInt32)) &&& (252645135 : Int32)) + ((((((((a0 - ((((a0).toUInt32 >>> (((1 : Int32)).toUInt32 &&& Int32.toUInt32 31)).toInt32) &&& (1431655765 : Int32))) &&& (858993459 : Int32)) + (((((a0 - ((((a0).toUInt32 >>> (((1 : Int32)).toUInt32 &&& Int32.toUInt32 31)).toInt32) &&& (1431655765 : Int32)))).toUInt32 >>> (((2 : Int32)).toUInt32 &&& Int32.toUInt32 31)).toInt32) &&& (858993459 : Int32))) + ((((((a0 - ((((a0).toUInt32 >>> (((1 : Int32)).toUInt32 &&& Int32.toUInt32 31)).toInt32) &&& (1431655765 : Int32))) &&& (858993459 : Int32)) + (((((a0 - ((((a0).toUInt32 >>> (((1 : Int32)).toUInt32 &&& Int32.toUInt32 31)).toInt32) &&& (1431655765 : Int32)))).toUInt32 >>> (((2 : Int32)).toUInt32 &&& Int32.toUInt32 31)).toInt32) &&& (858993459 : Int32)))).toUInt32 >>> (((4 : Int32)).toUInt32 &&& Int32.toUInt32 31)).toInt32)) &&& (252645135 : Int32))).toUInt32 >>> (((8 : Int32)).toUInt32 &&& Int32.toUInt32 31)).toInt32))).toUInt32 >>> (((16 : Int32)).toUInt32 &&& Int32.toUInt32 31)).toInt32)) &&& (63 : Int32))
set_option maxRecDepth 20000 in
theorem f_J6_bitCount_0f7a4 {sh : List ax_H} (σ : ax_S) (a0 : Int32)  {d : Nat} (hd : 1 ≤ d) : ax_Ct sh d mJ6_bitCount_0f7a4 [ax_i a0] (fun r u => r = some (ax_i (v_J6_bitCount_0f7a4 a0)) ∧ u = σ) σ := by
  obtain ⟨d, rfl⟩ : ∃ e, d = e + 1 := ⟨d - 1, by omega⟩
  refine ax_Ct.of (lv := [some (ax_i a0)]) (by decide +kernel) (fun ad => Nat.le_of_ble_eq_true rfl) (fun ad => rfl) ?_
  refine ax_iload_n (q := 1) (i := 0) dJ6_bitCount_0f7a4_0 rfl rfl rfl ?_
  refine ax_iload_n (q := 2) (i := 0) dJ6_bitCount_0f7a4_1 rfl rfl rfl ?_
  refine ax_iconst (q := 3) dJ6_bitCount_0f7a4_2 rfl ki_1 ?_
  refine ax_iushr (q := 4) dJ6_bitCount_0f7a4_3 rfl ?_
  refine ax_ldcw (q := 7) dJ6_bitCount_0f7a4_4 rfl kc_J6_265 ?_
  refine ax_iand (q := 8) dJ6_bitCount_0f7a4_7 rfl ?_
  refine ax_isub (q := 9) dJ6_bitCount_0f7a4_8 rfl ?_
  refine ax_istore_n (q := 10) (i := 0) (lv2 := [some (ax_i (a0 - ((((a0).toUInt32 >>> (((1 : Int32)).toUInt32 &&& Int32.toUInt32 31)).toInt32) &&& (1431655765 : Int32))))]) dJ6_bitCount_0f7a4_9 rfl rfl (by decide) rfl rfl ?_
  refine ax_iload_n (q := 11) (i := 0) dJ6_bitCount_0f7a4_10 rfl rfl rfl ?_
  refine ax_ldcw (q := 14) dJ6_bitCount_0f7a4_11 rfl kc_J6_266 ?_
  refine ax_iand (q := 15) dJ6_bitCount_0f7a4_14 rfl ?_
  refine ax_iload_n (q := 16) (i := 0) dJ6_bitCount_0f7a4_15 rfl rfl rfl ?_
  refine ax_iconst (q := 17) dJ6_bitCount_0f7a4_16 rfl ki_2 ?_
  refine ax_iushr (q := 18) dJ6_bitCount_0f7a4_17 rfl ?_
  refine ax_ldcw (q := 21) dJ6_bitCount_0f7a4_18 rfl kc_J6_266 ?_
  refine ax_iand (q := 22) dJ6_bitCount_0f7a4_21 rfl ?_
  refine ax_iadd (q := 23) dJ6_bitCount_0f7a4_22 rfl ?_
  refine ax_istore_n (q := 24) (i := 0) (lv2 := [some (ax_i (((a0 - ((((a0).toUInt32 >>> (((1 : Int32)).toUInt32 &&& Int32.toUInt32 31)).toInt32) &&& (1431655765 : Int32))) &&& (858993459 : Int32)) + (((((a0 - ((((a0).toUInt32 >>> (((1 : Int32)).toUInt32 &&& Int32.toUInt32 31)).toInt32) &&& (1431655765 : Int32)))).toUInt32 >>> (((2 : Int32)).toUInt32 &&& Int32.toUInt32 31)).toInt32) &&& (858993459 : Int32))))]) dJ6_bitCount_0f7a4_23 rfl rfl (by decide) rfl rfl ?_
  refine ax_iload_n (q := 25) (i := 0) dJ6_bitCount_0f7a4_24 rfl rfl rfl ?_
  refine ax_iload_n (q := 26) (i := 0) dJ6_bitCount_0f7a4_25 rfl rfl rfl ?_
  refine ax_iconst (q := 27) dJ6_bitCount_0f7a4_26 rfl ki_4 ?_
  refine ax_iushr (q := 28) dJ6_bitCount_0f7a4_27 rfl ?_
  refine ax_iadd (q := 29) dJ6_bitCount_0f7a4_28 rfl ?_
  refine ax_ldcw (q := 32) dJ6_bitCount_0f7a4_29 rfl kc_J6_267 ?_
  refine ax_iand (q := 33) dJ6_bitCount_0f7a4_32 rfl ?_
  refine ax_istore_n (q := 34) (i := 0) (lv2 := [some (ax_i (((((a0 - ((((a0).toUInt32 >>> (((1 : Int32)).toUInt32 &&& Int32.toUInt32 31)).toInt32) &&& (1431655765 : Int32))) &&& (858993459 : Int32)) + (((((a0 - ((((a0).toUInt32 >>> (((1 : Int32)).toUInt32 &&& Int32.toUInt32 31)).toInt32) &&& (1431655765 : Int32)))).toUInt32 >>> (((2 : Int32)).toUInt32 &&& Int32.toUInt32 31)).toInt32) &&& (858993459 : Int32))) + ((((((a0 - ((((a0).toUInt32 >>> (((1 : Int32)).toUInt32 &&& Int32.toUInt32 31)).toInt32) &&& (1431655765 : Int32))) &&& (858993459 : Int32)) + (((((a0 - ((((a0).toUInt32 >>> (((1 : Int32)).toUInt32 &&& Int32.toUInt32 31)).toInt32) &&& (1431655765 : Int32)))).toUInt32 >>> (((2 : Int32)).toUInt32 &&& Int32.toUInt32 31)).toInt32) &&& (858993459 : Int32)))).toUInt32 >>> (((4 : Int32)).toUInt32 &&& Int32.toUInt32 31)).toInt32)) &&& (252645135 : Int32)))]) dJ6_bitCount_0f7a4_33 rfl rfl (by decide) rfl rfl ?_
  refine ax_iload_n (q := 35) (i := 0) dJ6_bitCount_0f7a4_34 rfl rfl rfl ?_
  refine ax_iload_n (q := 36) (i := 0) dJ6_bitCount_0f7a4_35 rfl rfl rfl ?_
  refine ax_bipush (q := 38) dJ6_bitCount_0f7a4_36 rfl kb_8 ?_
  refine ax_iushr (q := 39) dJ6_bitCount_0f7a4_38 rfl ?_
  refine ax_iadd (q := 40) dJ6_bitCount_0f7a4_39 rfl ?_
  refine ax_istore_n (q := 41) (i := 0) (lv2 := [some (ax_i ((((((a0 - ((((a0).toUInt32 >>> (((1 : Int32)).toUInt32 &&& Int32.toUInt32 31)).toInt32) &&& (1431655765 : Int32))) &&& (858993459 : Int32)) + (((((a0 - ((((a0).toUInt32 >>> (((1 : Int32)).toUInt32 &&& Int32.toUInt32 31)).toInt32) &&& (1431655765 : Int32)))).toUInt32 >>> (((2 : Int32)).toUInt32 &&& Int32.toUInt32 31)).toInt32) &&& (858993459 : Int32))) + ((((((a0 - ((((a0).toUInt32 >>> (((1 : Int32)).toUInt32 &&& Int32.toUInt32 31)).toInt32) &&& (1431655765 : Int32))) &&& (858993459 : Int32)) + (((((a0 - ((((a0).toUInt32 >>> (((1 : Int32)).toUInt32 &&& Int32.toUInt32 31)).toInt32) &&& (1431655765 : Int32)))).toUInt32 >>> (((2 : Int32)).toUInt32 &&& Int32.toUInt32 31)).toInt32) &&& (858993459 : Int32)))).toUInt32 >>> (((4 : Int32)).toUInt32 &&& Int32.toUInt32 31)).toInt32)) &&& (252645135 : Int32)) + ((((((((a0 - ((((a0).toUInt32 >>> (((1 : Int32)).toUInt32 &&& Int32.toUInt32 31)).toInt32) &&& (1431655765 : Int32))) &&& (858993459 : Int32)) + (((((a0 - ((((a0).toUInt32 >>> (((1 : Int32)).toUInt32 &&& Int32.toUInt32 31)).toInt32) &&& (1431655765 : Int32)))).toUInt32 >>> (((2 : Int32)).toUInt32 &&& Int32.toUInt32 31)).toInt32) &&& (858993459 : Int32))) + ((((((a0 - ((((a0).toUInt32 >>> (((1 : Int32)).toUInt32 &&& Int32.toUInt32 31)).toInt32) &&& (1431655765 : Int32))) &&& (858993459 : Int32)) + (((((a0 - ((((a0).toUInt32 >>> (((1 : Int32)).toUInt32 &&& Int32.toUInt32 31)).toInt32) &&& (1431655765 : Int32)))).toUInt32 >>> (((2 : Int32)).toUInt32 &&& Int32.toUInt32 31)).toInt32) &&& (858993459 : Int32)))).toUInt32 >>> (((4 : Int32)).toUInt32 &&& Int32.toUInt32 31)).toInt32)) &&& (252645135 : Int32))).toUInt32 >>> (((8 : Int32)).toUInt32 &&& Int32.toUInt32 31)).toInt32)))]) dJ6_bitCount_0f7a4_40 rfl rfl (by decide) rfl rfl ?_
  refine ax_iload_n (q := 42) (i := 0) dJ6_bitCount_0f7a4_41 rfl rfl rfl ?_
  refine ax_iload_n (q := 43) (i := 0) dJ6_bitCount_0f7a4_42 rfl rfl rfl ?_
  refine ax_bipush (q := 45) dJ6_bitCount_0f7a4_43 rfl kb_16 ?_
  refine ax_iushr (q := 46) dJ6_bitCount_0f7a4_45 rfl ?_
  refine ax_iadd (q := 47) dJ6_bitCount_0f7a4_46 rfl ?_
  refine ax_istore_n (q := 48) (i := 0) (lv2 := [some (ax_i (((((((a0 - ((((a0).toUInt32 >>> (((1 : Int32)).toUInt32 &&& Int32.toUInt32 31)).toInt32) &&& (1431655765 : Int32))) &&& (858993459 : Int32)) + (((((a0 - ((((a0).toUInt32 >>> (((1 : Int32)).toUInt32 &&& Int32.toUInt32 31)).toInt32) &&& (1431655765 : Int32)))).toUInt32 >>> (((2 : Int32)).toUInt32 &&& Int32.toUInt32 31)).toInt32) &&& (858993459 : Int32))) + ((((((a0 - ((((a0).toUInt32 >>> (((1 : Int32)).toUInt32 &&& Int32.toUInt32 31)).toInt32) &&& (1431655765 : Int32))) &&& (858993459 : Int32)) + (((((a0 - ((((a0).toUInt32 >>> (((1 : Int32)).toUInt32 &&& Int32.toUInt32 31)).toInt32) &&& (1431655765 : Int32)))).toUInt32 >>> (((2 : Int32)).toUInt32 &&& Int32.toUInt32 31)).toInt32) &&& (858993459 : Int32)))).toUInt32 >>> (((4 : Int32)).toUInt32 &&& Int32.toUInt32 31)).toInt32)) &&& (252645135 : Int32)) + ((((((((a0 - ((((a0).toUInt32 >>> (((1 : Int32)).toUInt32 &&& Int32.toUInt32 31)).toInt32) &&& (1431655765 : Int32))) &&& (858993459 : Int32)) + (((((a0 - ((((a0).toUInt32 >>> (((1 : Int32)).toUInt32 &&& Int32.toUInt32 31)).toInt32) &&& (1431655765 : Int32)))).toUInt32 >>> (((2 : Int32)).toUInt32 &&& Int32.toUInt32 31)).toInt32) &&& (858993459 : Int32))) + ((((((a0 - ((((a0).toUInt32 >>> (((1 : Int32)).toUInt32 &&& Int32.toUInt32 31)).toInt32) &&& (1431655765 : Int32))) &&& (858993459 : Int32)) + (((((a0 - ((((a0).toUInt32 >>> (((1 : Int32)).toUInt32 &&& Int32.toUInt32 31)).toInt32) &&& (1431655765 : Int32)))).toUInt32 >>> (((2 : Int32)).toUInt32 &&& Int32.toUInt32 31)).toInt32) &&& (858993459 : Int32)))).toUInt32 >>> (((4 : Int32)).toUInt32 &&& Int32.toUInt32 31)).toInt32)) &&& (252645135 : Int32))).toUInt32 >>> (((8 : Int32)).toUInt32 &&& Int32.toUInt32 31)).toInt32)) + (((((((((a0 - ((((a0).toUInt32 >>> (((1 : Int32)).toUInt32 &&& Int32.toUInt32 31)).toInt32) &&& (1431655765 : Int32))) &&& (858993459 : Int32)) + (((((a0 - ((((a0).toUInt32 >>> (((1 : Int32)).toUInt32 &&& Int32.toUInt32 31)).toInt32) &&& (1431655765 : Int32)))).toUInt32 >>> (((2 : Int32)).toUInt32 &&& Int32.toUInt32 31)).toInt32) &&& (858993459 : Int32))) + ((((((a0 - ((((a0).toUInt32 >>> (((1 : Int32)).toUInt32 &&& Int32.toUInt32 31)).toInt32) &&& (1431655765 : Int32))) &&& (858993459 : Int32)) + (((((a0 - ((((a0).toUInt32 >>> (((1 : Int32)).toUInt32 &&& Int32.toUInt32 31)).toInt32) &&& (1431655765 : Int32)))).toUInt32 >>> (((2 : Int32)).toUInt32 &&& Int32.toUInt32 31)).toInt32) &&& (858993459 : Int32)))).toUInt32 >>> (((4 : Int32)).toUInt32 &&& Int32.toUInt32 31)).toInt32)) &&& (252645135 : Int32)) + ((((((((a0 - ((((a0).toUInt32 >>> (((1 : Int32)).toUInt32 &&& Int32.toUInt32 31)).toInt32) &&& (1431655765 : Int32))) &&& (858993459 : Int32)) + (((((a0 - ((((a0).toUInt32 >>> (((1 : Int32)).toUInt32 &&& Int32.toUInt32 31)).toInt32) &&& (1431655765 : Int32)))).toUInt32 >>> (((2 : Int32)).toUInt32 &&& Int32.toUInt32 31)).toInt32) &&& (858993459 : Int32))) + ((((((a0 - ((((a0).toUInt32 >>> (((1 : Int32)).toUInt32 &&& Int32.toUInt32 31)).toInt32) &&& (1431655765 : Int32))) &&& (858993459 : Int32)) + (((((a0 - ((((a0).toUInt32 >>> (((1 : Int32)).toUInt32 &&& Int32.toUInt32 31)).toInt32) &&& (1431655765 : Int32)))).toUInt32 >>> (((2 : Int32)).toUInt32 &&& Int32.toUInt32 31)).toInt32) &&& (858993459 : Int32)))).toUInt32 >>> (((4 : Int32)).toUInt32 &&& Int32.toUInt32 31)).toInt32)) &&& (252645135 : Int32))).toUInt32 >>> (((8 : Int32)).toUInt32 &&& Int32.toUInt32 31)).toInt32))).toUInt32 >>> (((16 : Int32)).toUInt32 &&& Int32.toUInt32 31)).toInt32)))]) dJ6_bitCount_0f7a4_47 rfl rfl (by decide) rfl rfl ?_
  refine ax_iload_n (q := 49) (i := 0) dJ6_bitCount_0f7a4_48 rfl rfl rfl ?_
  refine ax_bipush (q := 51) dJ6_bitCount_0f7a4_49 rfl kb_63 ?_
  refine ax_iand (q := 52) dJ6_bitCount_0f7a4_51 rfl ?_
  exact ax_iret dJ6_bitCount_0f7a4_52 rfl rfl ⟨rfl, rfl⟩
set_option maxRecDepth 20000 in
theorem s_X8_send_0 {d : Nat} (hd : 0 ≤ d) {Q : Option ax_V → ax_S → Prop} (σ : ax_S) (a0 : Int32) (a1 : Int32) (a2 : Int32) (k1 : ((35 : Int32) ≤ (σ.1 6 6)) → Q none σ) (h2 : (¬ ((35 : Int32) ≤ (σ.1 6 6))) → vp_in (σ.1 6 6) 35) (k3 : (¬ ((35 : Int32) ≤ (σ.1 6 6))) → Q none (ax_ui (ax_ui (ax_ui (ax_ui σ 33 (Int32.toNatClampNeg (σ.1 6 6)) a0) 34 (Int32.toNatClampNeg (σ.1 6 6)) a1) 35 (Int32.toNatClampNeg (σ.1 6 6)) a2) 6 6 ((σ.1 6 6) + (1 : Int32)))) : ax_W shC (d + 1) mX8_send Q 0 [some (ax_r 6), some (ax_i a0), some (ax_i a1), some (ax_i a2)] [] σ := by
  refine ax_aload_n (q := 1) (i := 0) dX8_send_0 rfl rfl rfl ?_
  refine ax_get (q := 4) (k := 6) (j := 6) (v := ax_i (σ.1 6 6)) dX8_send_1 rfl shC_6 rfl rfl rfl (by decide) fl_X8_38 ?_
  refine ax_bipush (q := 6) dX8_send_4 rfl kb_35 ?_
  refine ax_icmp_ge (tgt := 49) (q := 9) dX8_send_6 (by decide) rfl (fun c1 => ?_) (fun c1 => ?_)
  · exact ax_vret dX8_send_49 rfl (k1 c1)
  · refine ax_aload_n (q := 10) (i := 0) dX8_send_9 rfl rfl rfl ?_
    refine ax_get (q := 13) (k := 6) (j := 3) (v := ax_r 33) dX8_send_10 rfl shC_6 rfl rfl rfl (by decide) fl_X8_15 ?_
    refine ax_aload_n (q := 14) (i := 0) dX8_send_13 rfl rfl rfl ?_
    refine ax_get (q := 17) (k := 6) (j := 6) (v := ax_i (σ.1 6 6)) dX8_send_14 rfl shC_6 rfl rfl rfl (by decide) fl_X8_38 ?_
    refine ax_iload_n (q := 18) (i := 1) dX8_send_17 rfl rfl rfl ?_
    refine ax_iast (q := 19) (a := (Int32.toNatClampNeg (σ.1 6 6))) dX8_send_18 rfl shC_33 (h2 c1) rfl ?_
    refine ax_aload_n (q := 20) (i := 0) dX8_send_19 rfl rfl rfl ?_
    refine ax_get (q := 23) (k := 6) (j := 4) (v := ax_r 34) dX8_send_20 rfl shC_6 rfl rfl rfl (by decide) fl_X8_18 ?_
    refine ax_aload_n (q := 24) (i := 0) dX8_send_23 rfl rfl rfl ?_
    refine ax_get (q := 27) (k := 6) (j := 6) (v := ax_i (σ.1 6 6)) dX8_send_24 rfl shC_6 rfl rfl rfl (by decide) fl_X8_38 ?_
    refine ax_iload_n (q := 28) (i := 2) dX8_send_27 rfl rfl rfl ?_
    refine ax_iast (q := 29) (a := (Int32.toNatClampNeg (σ.1 6 6))) dX8_send_28 rfl shC_34 (h2 c1) rfl ?_
    refine ax_aload_n (q := 30) (i := 0) dX8_send_29 rfl rfl rfl ?_
    refine ax_get (q := 33) (k := 6) (j := 5) (v := ax_r 35) dX8_send_30 rfl shC_6 rfl rfl rfl (by decide) fl_X8_21 ?_
    refine ax_aload_n (q := 34) (i := 0) dX8_send_33 rfl rfl rfl ?_
    refine ax_get (q := 37) (k := 6) (j := 6) (v := ax_i (σ.1 6 6)) dX8_send_34 rfl shC_6 rfl rfl rfl (by decide) fl_X8_38 ?_
    refine ax_iload_n (q := 38) (i := 3) dX8_send_37 rfl rfl rfl ?_
    refine ax_iast (q := 39) (a := (Int32.toNatClampNeg (σ.1 6 6))) dX8_send_38 rfl shC_35 (h2 c1) rfl ?_
    refine ax_aload_n (q := 40) (i := 0) dX8_send_39 rfl rfl rfl ?_
    refine ax_dupr (q := 41) dX8_send_40 rfl ?_
    refine ax_get (q := 44) (k := 6) (j := 6) (v := ax_i (σ.1 6 6)) dX8_send_41 rfl shC_6 rfl rfl rfl (by decide) fl_X8_38 ?_
    refine ax_iconst (q := 45) dX8_send_44 rfl ki_1 ?_
    refine ax_iadd (q := 46) dX8_send_45 rfl ?_
    refine ax_puti (q := 49) (k := 6) (j := 6) dX8_send_46 rfl shC_6 rfl rfl (by decide) fl_X8_38 rfl rfl rfl rfl ?_
    exact ax_vret dX8_send_49 rfl (k3 c1)
set_option maxRecDepth 20000 in
theorem s_X8_pass_0 {d : Nat} (hd : 0 ≤ d) {Q : Option ax_V → ax_S → Prop} (σ : ax_S) (a0 : Int32) (a1 : Int32) (a2 : Int32) (k1 : ax_W shC (d + 1) mX8_pass Q 3 [some (ax_r 6), some (ax_i a0), some (ax_i a1), some (ax_i a2), some (ax_i (0 : Int32)), none] [] σ) : ax_W shC (d + 1) mX8_pass Q 0 [some (ax_r 6), some (ax_i a0), some (ax_i a1), some (ax_i a2), none, none] [] σ := by
  refine ax_iconst (q := 1) dX8_pass_0 rfl ki_0 ?_
  refine ax_istore (q := 3) (lv2 := [some (ax_r 6), some (ax_i a0), some (ax_i a1), some (ax_i a2), some (ax_i (0 : Int32)), none]) dX8_pass_1 rfl (by decide) rfl rfl ?_
  exact k1
set_option maxRecDepth 20000 in
theorem s_X8_pass_3 {d : Nat} (hd : 1 ≤ d) {Q : Option ax_V → ax_S → Prop} (σ : ax_S) (x1 : Int32) (x2 : Int32) (x3 : Int32) (x4 : Int32) (k1 : ((σ.1 5 10) < x4) → Q none σ) (k2 : (¬ ((σ.1 5 10) < x4)) → ((17 : Int32) ≤ x4) → Q none σ) (h3 : (¬ ((σ.1 5 10) < x4)) → (¬ ((17 : Int32) ≤ x4)) → (¬ ((x2 >>> (x4 &&& 31)) &&& (1 : Int32)) = 0) → vp_in x4 17) (k4 : (¬ ((σ.1 5 10) < x4)) → (¬ ((17 : Int32) ≤ x4)) → (¬ ((x2 >>> (x4 &&& 31)) &&& (1 : Int32)) = 0) → (x3 ≤ (if (σ.1 30 (Int32.toNatClampNeg x4)) < x3 then (σ.1 30 (Int32.toNatClampNeg x4)) else x3)) → ax_W shC (d + 1) mX8_pass Q 3 [some (ax_r 6), some (ax_i x1), some (ax_i x2), some (ax_i x3), some (ax_i (x4 + (1 : Int32))), none] [] (ax_ui σ 6 8 ((σ.1 6 8) + (if (σ.1 30 (Int32.toNatClampNeg x4)) < x3 then (σ.1 30 (Int32.toNatClampNeg x4)) else x3)))) (h5 : (¬ ((σ.1 5 10) < x4)) → (¬ ((17 : Int32) ≤ x4)) → (¬ ((x2 >>> (x4 &&& 31)) &&& (1 : Int32)) = 0) → (¬ (x3 ≤ (if (σ.1 30 (Int32.toNatClampNeg x4)) < x3 then (σ.1 30 (Int32.toNatClampNeg x4)) else x3))) → vp_in x4 17) (h6 : (¬ ((σ.1 5 10) < x4)) → (¬ ((17 : Int32) ≤ x4)) → (¬ ((x2 >>> (x4 &&& 31)) &&& (1 : Int32)) = 0) → (¬ (x3 ≤ (if (σ.1 30 (Int32.toNatClampNeg x4)) < x3 then (σ.1 30 (Int32.toNatClampNeg x4)) else x3))) → (¬ (σ.1 28 (Int32.toNatClampNeg x4)) = x1) → vp_in x4 17) (h7 : (¬ ((σ.1 5 10) < x4)) → (¬ ((17 : Int32) ≤ x4)) → (¬ ((x2 >>> (x4 &&& 31)) &&& (1 : Int32)) = 0) → (¬ (x3 ≤ (if (σ.1 30 (Int32.toNatClampNeg x4)) < x3 then (σ.1 30 (Int32.toNatClampNeg x4)) else x3))) → (¬ (¬ (σ.1 28 (Int32.toNatClampNeg x4)) = x1)) → vp_in x4 17) (k8 : (¬ ((σ.1 5 10) < x4)) → (¬ ((17 : Int32) ≤ x4)) → (¬ ((x2 >>> (x4 &&& 31)) &&& (1 : Int32)) = 0) → (¬ (x3 ≤ (if (σ.1 30 (Int32.toNatClampNeg x4)) < x3 then (σ.1 30 (Int32.toNatClampNeg x4)) else x3))) → ax_Ct shC d mX8_send [ax_r 6, ax_i (if (¬ (σ.1 28 (Int32.toNatClampNeg x4)) = x1) then (σ.1 28 (Int32.toNatClampNeg x4)) else (σ.1 29 (Int32.toNatClampNeg x4))), ax_i x4, ax_i (x3 - (if (σ.1 30 (Int32.toNatClampNeg x4)) < x3 then (σ.1 30 (Int32.toNatClampNeg x4)) else x3))] (fun r u => r = none ∧ ax_W shC (d + 1) mX8_pass Q 114 [some (ax_r 6), some (ax_i x1), some (ax_i x2), some (ax_i x3), some (ax_i x4), none] [] u) (ax_ui σ 6 8 ((σ.1 6 8) + (if (σ.1 30 (Int32.toNatClampNeg x4)) < x3 then (σ.1 30 (Int32.toNatClampNeg x4)) else x3)))) (k9 : (¬ ((σ.1 5 10) < x4)) → (¬ ((17 : Int32) ≤ x4)) → (¬ (¬ ((x2 >>> (x4 &&& 31)) &&& (1 : Int32)) = 0)) → ax_W shC (d + 1) mX8_pass Q 3 [some (ax_r 6), some (ax_i x1), some (ax_i x2), some (ax_i x3), some (ax_i (x4 + (1 : Int32))), none] [] σ) : ax_W shC (d + 1) mX8_pass Q 3 [some (ax_r 6), some (ax_i x1), some (ax_i x2), some (ax_i x3), some (ax_i x4), none] [] σ := by
  refine ax_iload (q := 5) dX8_pass_3 rfl rfl ?_
  refine ax_aload_n (q := 6) (i := 0) dX8_pass_5 rfl rfl rfl ?_
  refine ax_get (q := 9) (k := 6) (j := 0) (v := ax_r 5) dX8_pass_6 rfl shC_6 rfl rfl rfl (by decide) fl_X8_24 ?_
  refine ax_get (q := 12) (k := 5) (j := 10) (v := ax_i (σ.1 5 10)) dX8_pass_9 rfl shC_5 rfl rfl rfl (by decide) fl_X8_110 ?_
  refine ax_icmp_gt (tgt := 120) (q := 15) dX8_pass_12 (by decide) rfl (fun c1 => ?_) (fun c1 => ?_)
  · exact ax_vret dX8_pass_120 rfl (k1 c1)
  · refine ax_iload (q := 17) dX8_pass_15 rfl rfl ?_
    refine ax_bipush (q := 19) dX8_pass_17 rfl kb_17 ?_
    refine ax_icmp_ge (tgt := 120) (q := 22) dX8_pass_19 (by decide) rfl (fun c2 => ?_) (fun c2 => ?_)
    · exact ax_vret dX8_pass_120 rfl (k2 c1 c2)
    · refine ax_iload_n (q := 23) (i := 2) dX8_pass_22 rfl rfl rfl ?_
      refine ax_iload (q := 25) dX8_pass_23 rfl rfl ?_
      refine ax_callNfi (q := 28) (As := [ax_i x2, ax_i x4]) (st := []) (x := ((x2 >>> (x4 &&& 31)) &&& (1 : Int32))) (σ2 := σ) dX8_pass_25 rfl lk_X8_60 rfl rfl (Nat.le_of_ble_eq_true rfl) (f_X11_bitOf (sh := shC) σ x2 x4  (d := d) (by omega)) ?_
      refine ax_if_ne (tgt := 34) (q := 31) dX8_pass_28 (by decide) rfl (fun c3 => ?_) (fun c3 => ?_)
      · refine ax_iload_n (q := 35) (i := 3) dX8_pass_34 rfl rfl rfl ?_
        refine ax_aload_n (q := 36) (i := 0) dX8_pass_35 rfl rfl rfl ?_
        refine ax_get (q := 39) (k := 6) (j := 0) (v := ax_r 5) dX8_pass_36 rfl shC_6 rfl rfl rfl (by decide) fl_X8_24 ?_
        refine ax_get (q := 42) (k := 5) (j := 7) (v := ax_r 30) dX8_pass_39 rfl shC_5 rfl rfl rfl (by decide) fl_X8_113 ?_
        refine ax_iload (q := 44) dX8_pass_42 rfl rfl ?_
        refine ax_iald (q := 45) (a := (Int32.toNatClampNeg x4)) (v := (σ.1 30 (Int32.toNatClampNeg x4))) dX8_pass_44 rfl shC_30 (h3 c1 c2 c3) rfl rfl ?_
        refine ax_mmin (q := 48) dX8_pass_45 rfl mk_X8_99 (Nat.le_of_ble_eq_true rfl) ?_
        refine ax_istore (q := 50) (lv2 := [some (ax_r 6), some (ax_i x1), some (ax_i x2), some (ax_i x3), some (ax_i x4), some (ax_i (if (σ.1 30 (Int32.toNatClampNeg x4)) < x3 then (σ.1 30 (Int32.toNatClampNeg x4)) else x3))]) dX8_pass_48 rfl (by decide) rfl rfl ?_
        refine ax_aload_n (q := 51) (i := 0) dX8_pass_50 rfl rfl rfl ?_
        refine ax_dupr (q := 52) dX8_pass_51 rfl ?_
        refine ax_get (q := 55) (k := 6) (j := 8) (v := ax_i (σ.1 6 8)) dX8_pass_52 rfl shC_6 rfl rfl rfl (by decide) fl_X8_45 ?_
        refine ax_iload (q := 57) dX8_pass_55 rfl rfl ?_
        refine ax_iadd (q := 58) dX8_pass_57 rfl ?_
        refine ax_puti (q := 61) (k := 6) (j := 8) dX8_pass_58 rfl shC_6 rfl rfl (by decide) fl_X8_45 rfl rfl rfl rfl ?_
        refine ax_iload_n (q := 62) (i := 3) dX8_pass_61 rfl rfl rfl ?_
        refine ax_iload (q := 64) dX8_pass_62 rfl rfl ?_
        refine ax_icmp_le (tgt := 114) (q := 67) dX8_pass_64 (by decide) rfl (fun c4 => ?_) (fun c4 => ?_)
        · refine ax_iincK (q := 117) (lv2 := [some (ax_r 6), some (ax_i x1), some (ax_i x2), some (ax_i x3), some (ax_i (x4 + (1 : Int32))), some (ax_i (if (σ.1 30 (Int32.toNatClampNeg x4)) < x3 then (σ.1 30 (Int32.toNatClampNeg x4)) else x3))]) dX8_pass_114 rfl rfl ki_1 (by decide) rfl rfl ?_
          refine ax_goto (tgt := 3) dX8_pass_117 (by decide) ?_
          refine ax_fg (lv2 := [some (ax_r 6), some (ax_i x1), some (ax_i x2), some (ax_i x3), some (ax_i (x4 + (1 : Int32))), none]) ⟨rfl, rfl, rfl, rfl, rfl, trivial⟩ ?_
          exact (k4 c1 c2 c3 c4)
        · refine ax_aload_n (q := 68) (i := 0) dX8_pass_67 rfl rfl rfl ?_
          refine ax_aload_n (q := 69) (i := 0) dX8_pass_68 rfl rfl rfl ?_
          refine ax_get (q := 72) (k := 6) (j := 0) (v := ax_r 5) dX8_pass_69 rfl shC_6 rfl rfl rfl (by decide) fl_X8_24 ?_
          refine ax_get (q := 75) (k := 5) (j := 5) (v := ax_r 28) dX8_pass_72 rfl shC_5 rfl rfl rfl (by decide) fl_X8_116 ?_
          refine ax_iload (q := 77) dX8_pass_75 rfl rfl ?_
          refine ax_iald (q := 78) (a := (Int32.toNatClampNeg x4)) (v := (σ.1 28 (Int32.toNatClampNeg x4))) dX8_pass_77 rfl shC_28 (h5 c1 c2 c3 c4) rfl rfl ?_
          refine ax_iload_n (q := 79) (i := 1) dX8_pass_78 rfl rfl rfl ?_
          have K6 : ax_W shC (d + 1) mX8_pass Q 105 [some (ax_r 6), some (ax_i x1), some (ax_i x2), some (ax_i x3), some (ax_i x4), some (ax_i (if (σ.1 30 (Int32.toNatClampNeg x4)) < x3 then (σ.1 30 (Int32.toNatClampNeg x4)) else x3))] [ax_i (if (¬ (σ.1 28 (Int32.toNatClampNeg x4)) = x1) then (σ.1 28 (Int32.toNatClampNeg x4)) else (σ.1 29 (Int32.toNatClampNeg x4))), ax_r 6] (ax_ui σ 6 8 ((σ.1 6 8) + (if (σ.1 30 (Int32.toNatClampNeg x4)) < x3 then (σ.1 30 (Int32.toNatClampNeg x4)) else x3))) := by
            refine ax_iload (q := 107) dX8_pass_105 rfl rfl ?_
            refine ax_iload_n (q := 108) (i := 3) dX8_pass_107 rfl rfl rfl ?_
            refine ax_iload (q := 110) dX8_pass_108 rfl rfl ?_
            refine ax_isub (q := 111) dX8_pass_110 rfl ?_
            refine ax_fg (lv2 := [some (ax_r 6), some (ax_i x1), some (ax_i x2), some (ax_i x3), some (ax_i x4), none]) ⟨rfl, rfl, rfl, rfl, rfl, trivial⟩ ?_
            exact ax_callVcv (q := 114) (As := [ax_i (if (¬ (σ.1 28 (Int32.toNatClampNeg x4)) = x1) then (σ.1 28 (Int32.toNatClampNeg x4)) else (σ.1 29 (Int32.toNatClampNeg x4))), ax_i x4, ax_i (x3 - (if (σ.1 30 (Int32.toNatClampNeg x4)) < x3 then (σ.1 30 (Int32.toNatClampNeg x4)) else x3))]) (st := []) dX8_pass_111 rfl lk_X8_48 shC_6 rfl rfl rfl rfl (Nat.le_of_ble_eq_true rfl) (k8 c1 c2 c3 c4)
          refine ax_icmp_ne (tgt := 95) (q := 82) dX8_pass_79 (by decide) rfl (fun c5 => ?_) (fun c5 => ?_)
          · refine ax_aload_n (q := 96) (i := 0) dX8_pass_95 rfl rfl rfl ?_
            refine ax_get (q := 99) (k := 6) (j := 0) (v := ax_r 5) dX8_pass_96 rfl shC_6 rfl rfl rfl (by decide) fl_X8_24 ?_
            refine ax_get (q := 102) (k := 5) (j := 5) (v := ax_r 28) dX8_pass_99 rfl shC_5 rfl rfl rfl (by decide) fl_X8_116 ?_
            refine ax_iload (q := 104) dX8_pass_102 rfl rfl ?_
            refine ax_iald (q := 105) (a := (Int32.toNatClampNeg x4)) (v := (σ.1 28 (Int32.toNatClampNeg x4))) dX8_pass_104 rfl shC_28 (h6 c1 c2 c3 c4 c5) rfl rfl ?_
            exact ax_cv (if_pos c5) K6
          · refine ax_aload_n (q := 83) (i := 0) dX8_pass_82 rfl rfl rfl ?_
            refine ax_get (q := 86) (k := 6) (j := 0) (v := ax_r 5) dX8_pass_83 rfl shC_6 rfl rfl rfl (by decide) fl_X8_24 ?_
            refine ax_get (q := 89) (k := 5) (j := 6) (v := ax_r 29) dX8_pass_86 rfl shC_5 rfl rfl rfl (by decide) fl_X8_119 ?_
            refine ax_iload (q := 91) dX8_pass_89 rfl rfl ?_
            refine ax_iald (q := 92) (a := (Int32.toNatClampNeg x4)) (v := (σ.1 29 (Int32.toNatClampNeg x4))) dX8_pass_91 rfl shC_29 (h7 c1 c2 c3 c4 c5) rfl rfl ?_
            refine ax_goto (tgt := 105) dX8_pass_92 (by decide) ?_
            exact ax_cv (if_neg c5) K6
      · refine ax_goto (tgt := 114) dX8_pass_31 (by decide) ?_
        refine ax_iincK (q := 117) (lv2 := [some (ax_r 6), some (ax_i x1), some (ax_i x2), some (ax_i x3), some (ax_i (x4 + (1 : Int32))), none]) dX8_pass_114 rfl rfl ki_1 (by decide) rfl rfl ?_
        refine ax_goto (tgt := 3) dX8_pass_117 (by decide) ?_
        exact (k9 c1 c2 c3)
set_option maxRecDepth 20000 in
theorem s_X8_pass_114 {d : Nat} (hd : 0 ≤ d) {Q : Option ax_V → ax_S → Prop} (σ : ax_S) (x1 : Int32) (x2 : Int32) (x3 : Int32) (x4 : Int32) (k1 : ax_W shC (d + 1) mX8_pass Q 3 [some (ax_r 6), some (ax_i x1), some (ax_i x2), some (ax_i x3), some (ax_i (x4 + (1 : Int32))), none] [] σ) : ax_W shC (d + 1) mX8_pass Q 114 [some (ax_r 6), some (ax_i x1), some (ax_i x2), some (ax_i x3), some (ax_i x4), none] [] σ := by
  refine ax_iincK (q := 117) (lv2 := [some (ax_r 6), some (ax_i x1), some (ax_i x2), some (ax_i x3), some (ax_i (x4 + (1 : Int32))), none]) dX8_pass_114 rfl rfl ki_1 (by decide) rfl rfl ?_
  refine ax_goto (tgt := 3) dX8_pass_117 (by decide) ?_
  exact k1
