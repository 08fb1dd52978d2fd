set_option maxRecDepth 20000 in
theorem s_X7_join_0 {d : Nat} (hd : 0 ≤ d) {Q : Option ax_V → ax_S → Prop} (σ : ax_S) (a0 : Int32) (a1 : Int64) (a2 : Int64) (k1 : (a0 = (2 : Int32)) → ax_W shC (d + 1) mX7_join Q 183 [none, none, none, none, none, some (ax_l (a1 + a2)), none] [] σ) (k2 : (¬ (a0 = (2 : Int32))) → (a0 = (3 : Int32)) → ax_W shC (d + 1) mX7_join Q 183 [none, none, none, none, none, some (ax_l (a1 - a2)), none] [] σ) (k3 : (¬ (a0 = (2 : Int32))) → (¬ (a0 = (3 : Int32))) → (a0 = (4 : Int32)) → ax_W shC (d + 1) mX7_join Q 183 [none, none, none, none, none, some (ax_l (a1 * a2)), none] [] σ) (h4 : (¬ (a0 = (2 : Int32))) → (¬ (a0 = (3 : Int32))) → (¬ (a0 = (4 : Int32))) → (a0 = (5 : Int32)) → (¬ (lg_cmp a2 (0 : Int64)) = 0) → ¬ a2 = 0) (k5 : (¬ (a0 = (2 : Int32))) → (¬ (a0 = (3 : Int32))) → (¬ (a0 = (4 : Int32))) → (a0 = (5 : Int32)) → ax_W shC (d + 1) mX7_join Q 183 [none, none, none, none, none, some (ax_l (if (¬ (lg_cmp a2 (0 : Int64)) = 0) then (a1 / a2) else (0 : Int64))), none] [] σ) (k6 : (¬ (a0 = (2 : Int32))) → (¬ (a0 = (3 : Int32))) → (¬ (a0 = (4 : Int32))) → (¬ (a0 = (5 : Int32))) → (a0 = (6 : Int32)) → ax_W shC (d + 1) mX7_join Q 183 [none, none, none, none, none, some (ax_l (if (¬ (lg_cmp a1 a2) = 0) then (0 : Int64) else (1 : Int64))), none] [] σ) (k7 : (¬ (a0 = (2 : Int32))) → (¬ (a0 = (3 : Int32))) → (¬ (a0 = (4 : Int32))) → (¬ (a0 = (5 : Int32))) → (¬ (a0 = (6 : Int32))) → (a0 = (7 : Int32)) → ax_W shC (d + 1) mX7_join Q 183 [none, none, none, none, none, some (ax_l (if (0 ≤ (lg_cmp a1 a2)) then (0 : Int64) else (1 : Int64))), none] [] σ) (k8 : (¬ (a0 = (2 : Int32))) → (¬ (a0 = (3 : Int32))) → (¬ (a0 = (4 : Int32))) → (¬ (a0 = (5 : Int32))) → (¬ (a0 = (6 : Int32))) → (¬ (a0 = (7 : Int32))) → (a0 = (8 : Int32)) → ax_W shC (d + 1) mX7_join Q 183 [none, none, none, none, none, some (ax_l (if ((lg_cmp a1 a2) ≤ 0) then (0 : Int64) else (1 : Int64))), none] [] σ) (k9 : (¬ (a0 = (2 : Int32))) → (¬ (a0 = (3 : Int32))) → (¬ (a0 = (4 : Int32))) → (¬ (a0 = (5 : Int32))) → (¬ (a0 = (6 : Int32))) → (¬ (a0 = (7 : Int32))) → (¬ (a0 = (8 : Int32))) → (a0 = (9 : Int32)) → ax_W shC (d + 1) mX7_join Q 183 [none, none, none, none, none, some (ax_l (if (¬ (lg_cmp a1 (0 : Int64)) = 0) then (1 : Int64) else (if ((lg_cmp a2 (0 : Int64)) = 0) then (0 : Int64) else (1 : Int64)))), none] [] σ) (k10 : (¬ (a0 = (2 : Int32))) → (¬ (a0 = (3 : Int32))) → (¬ (a0 = (4 : Int32))) → (¬ (a0 = (5 : Int32))) → (¬ (a0 = (6 : Int32))) → (¬ (a0 = (7 : Int32))) → (¬ (a0 = (8 : Int32))) → (¬ (a0 = (9 : Int32))) → (a0 = (10 : Int32)) → ax_W shC (d + 1) mX7_join Q 183 [none, none, none, none, none, some (ax_l (if ((lg_cmp a1 (0 : Int64)) = 0) then (0 : Int64) else (if ((lg_cmp a2 (0 : Int64)) = 0) then (0 : Int64) else (1 : Int64)))), none] [] σ) (k11 : (¬ (a0 = (2 : Int32))) → (¬ (a0 = (3 : Int32))) → (¬ (a0 = (4 : Int32))) → (¬ (a0 = (5 : Int32))) → (¬ (a0 = (6 : Int32))) → (¬ (a0 = (7 : Int32))) → (¬ (a0 = (8 : Int32))) → (¬ (a0 = (9 : Int32))) → (¬ (a0 = (10 : Int32))) → ax_W shC (d + 1) mX7_join Q 183 [none, none, none, none, none, some (ax_l (if (¬ (lg_cmp a1 (0 : Int64)) = 0) then (1 : Int64) else (if ((lg_cmp a2 (0 : Int64)) = 0) then (0 : Int64) else (1 : Int64)))), none] [] σ) : ax_W shC (d + 1) mX7_join Q 0 [some (ax_i a0), some (ax_l a1), none, some (ax_l a2), none, none, none] [] σ := by
  refine ax_iload_n (q := 1) (i := 0) dX7_join_0 rfl rfl rfl ?_
  by_cases c1 : (a0 = (2 : Int32))
  · refine ax_tableIn (tgt := 52) (off := 51) dX7_join_1 (by rw [c1]; decide) (by rw [c1]; decide) (by rw [c1]; decide) (by decide) ?_
    refine ax_lload_n (q := 53) (i := 1) dX7_join_52 rfl rfl rfl ?_
    refine ax_lload_n (q := 54) (i := 3) dX7_join_53 rfl rfl rfl ?_
    refine ax_ladd (q := 55) dX7_join_54 rfl ?_
    refine ax_lstore (q := 57) (lv2 := [some (ax_i a0), some (ax_l a1), none, some (ax_l a2), none, some (ax_l (a1 + a2)), none]) dX7_join_55 rfl (by decide) rfl rfl ?_
    refine ax_goto (tgt := 183) dX7_join_57 (by decide) ?_
    refine ax_fg (lv2 := [none, none, none, none, none, some (ax_l (a1 + a2)), none]) ⟨rfl, trivial⟩ ?_
    exact (k1 c1)
  by_cases c2 : (a0 = (3 : Int32))
  · refine ax_tableIn (tgt := 60) (off := 59) dX7_join_1 (by rw [c2]; decide) (by rw [c2]; decide) (by rw [c2]; decide) (by decide) ?_
    refine ax_lload_n (q := 61) (i := 1) dX7_join_60 rfl rfl rfl ?_
    refine ax_lload_n (q := 62) (i := 3) dX7_join_61 rfl rfl rfl ?_
    refine ax_lsub (q := 63) dX7_join_62 rfl ?_
    refine ax_lstore (q := 65) (lv2 := [some (ax_i a0), some (ax_l a1), none, some (ax_l a2), none, some (ax_l (a1 - a2)), none]) dX7_join_63 rfl (by decide) rfl rfl ?_
    refine ax_goto (tgt := 183) dX7_join_65 (by decide) ?_
    refine ax_fg (lv2 := [none, none, none, none, none, some (ax_l (a1 - a2)), none]) ⟨rfl, trivial⟩ ?_
    exact (k2 c1 c2)
  by_cases c3 : (a0 = (4 : Int32))
  · refine ax_tableIn (tgt := 68) (off := 67) dX7_join_1 (by rw [c3]; decide) (by rw [c3]; decide) (by rw [c3]; decide) (by decide) ?_
    refine ax_lload_n (q := 69) (i := 1) dX7_join_68 rfl rfl rfl ?_
    refine ax_lload_n (q := 70) (i := 3) dX7_join_69 rfl rfl rfl ?_
    refine ax_lmul (q := 71) dX7_join_70 rfl ?_
    refine ax_lstore (q := 73) (lv2 := [some (ax_i a0), some (ax_l a1), none, some (ax_l a2), none, some (ax_l (a1 * a2)), none]) dX7_join_71 rfl (by decide) rfl rfl ?_
    refine ax_goto (tgt := 183) dX7_join_73 (by decide) ?_
    refine ax_fg (lv2 := [none, none, none, none, none, some (ax_l (a1 * a2)), none]) ⟨rfl, trivial⟩ ?_
    exact (k3 c1 c2 c3)
  by_cases c4 : (a0 = (5 : Int32))
  · refine ax_tableIn (tgt := 76) (off := 75) dX7_join_1 (by rw [c4]; decide) (by rw [c4]; decide) (by rw [c4]; decide) (by decide) ?_
    refine ax_lload_n (q := 77) (i := 3) dX7_join_76 rfl rfl rfl ?_
    refine ax_lconst (q := 78) (v := 0) dX7_join_77 rfl rfl ?_
    refine ax_lcmp (q := 79) dX7_join_78 rfl ?_
    have K6 : ax_W shC (d + 1) mX7_join Q 89 [some (ax_i a0), some (ax_l a1), none, some (ax_l a2), none, none, none] [ax_l (if (¬ (lg_cmp a2 (0 : Int64)) = 0) then (a1 / a2) else (0 : Int64))] σ := by
      refine ax_lstore (q := 91) (lv2 := [some (ax_i a0), some (ax_l a1), none, some (ax_l a2), none, some (ax_l (if (¬ (lg_cmp a2 (0 : Int64)) = 0) then (a1 / a2) else (0 : Int64))), none]) dX7_join_89 rfl (by decide) rfl rfl ?_
      refine ax_goto (tgt := 183) dX7_join_91 (by decide) ?_
      refine ax_fg (lv2 := [none, none, none, none, none, some (ax_l (if (¬ (lg_cmp a2 (0 : Int64)) = 0) then (a1 / a2) else (0 : Int64))), none]) ⟨rfl, trivial⟩ ?_
      exact (k5 c1 c2 c3 c4)
    refine ax_if_ne (tgt := 86) (q := 82) dX7_join_79 (by decide) rfl (fun c5 => ?_) (fun c5 => ?_)
    · refine ax_lload_n (q := 87) (i := 1) dX7_join_86 rfl rfl rfl ?_
      refine ax_lload_n (q := 88) (i := 3) dX7_join_87 rfl rfl rfl ?_
      refine ax_ldiv (q := 89) dX7_join_88 rfl (h4 c1 c2 c3 c4 c5) ?_
      exact ax_cvl (if_pos c5) K6
    · refine ax_lconst (q := 83) (v := 0) dX7_join_82 rfl rfl ?_
      refine ax_goto (tgt := 89) dX7_join_83 (by decide) ?_
      exact ax_cvl (if_neg c5) K6
  by_cases c7 : (a0 = (6 : Int32))
  · refine ax_tableIn (tgt := 94) (off := 93) dX7_join_1 (by rw [c7]; decide) (by rw [c7]; decide) (by rw [c7]; decide) (by decide) ?_
    refine ax_lload_n (q := 95) (i := 1) dX7_join_94 rfl rfl rfl ?_
    refine ax_lload_n (q := 96) (i := 3) dX7_join_95 rfl rfl rfl ?_
    refine ax_lcmp (q := 97) dX7_join_96 rfl ?_
    have K9 : ax_W shC (d + 1) mX7_join Q 105 [some (ax_i a0), some (ax_l a1), none, some (ax_l a2), none, none, none] [ax_l (if (¬ (lg_cmp a1 a2) = 0) then (0 : Int64) else (1 : Int64))] σ := by
      refine ax_lstore (q := 107) (lv2 := [some (ax_i a0), some (ax_l a1), none, some (ax_l a2), none, some (ax_l (if (¬ (lg_cmp a1 a2) = 0) then (0 : Int64) else (1 : Int64))), none]) dX7_join_105 rfl (by decide) rfl rfl ?_
      refine ax_goto (tgt := 183) dX7_join_107 (by decide) ?_
      refine ax_fg (lv2 := [none, none, none, none, none, some (ax_l (if (¬ (lg_cmp a1 a2) = 0) then (0 : Int64) else (1 : Int64))), none]) ⟨rfl, trivial⟩ ?_
      exact (k6 c1 c2 c3 c4 c7)
    refine ax_if_ne (tgt := 104) (q := 100) dX7_join_97 (by decide) rfl (fun c8 => ?_) (fun c8 => ?_)
    · refine ax_lconst (q := 105) (v := 0) dX7_join_104 rfl rfl ?_
      exact ax_cvl (if_pos c8) K9
    · refine ax_lconst (q := 101) (v := 1) dX7_join_100 rfl rfl ?_
      refine ax_goto (tgt := 105) dX7_join_101 (by decide) ?_
      exact ax_cvl (if_neg c8) K9
  by_cases c10 : (a0 = (7 : Int32))
  · refine ax_tableIn (tgt := 110) (off := 109) dX7_join_1 (by rw [c10]; decide) (by rw [c10]; decide) (by rw [c10]; decide) (by decide) ?_
    refine ax_lload_n (q := 111) (i := 1) dX7_join_110 rfl rfl rfl ?_
    refine ax_lload_n (q := 112) (i := 3) dX7_join_111 rfl rfl rfl ?_
    refine ax_lcmp (q := 113) dX7_join_112 rfl ?_
    have K12 : ax_W shC (d + 1) mX7_join Q 121 [some (ax_i a0), some (ax_l a1), none, some (ax_l a2), none, none, none] [ax_l (if (0 ≤ (lg_cmp a1 a2)) then (0 : Int64) else (1 : Int64))] σ := by
      refine ax_lstore (q := 123) (lv2 := [some (ax_i a0), some (ax_l a1), none, some (ax_l a2), none, some (ax_l (if (0 ≤ (lg_cmp a1 a2)) then (0 : Int64) else (1 : Int64))), none]) dX7_join_121 rfl (by decide) rfl rfl ?_
      refine ax_goto (tgt := 183) dX7_join_123 (by decide) ?_
      refine ax_fg (lv2 := [none, none, none, none, none, some (ax_l (if (0 ≤ (lg_cmp a1 a2)) then (0 : Int64) else (1 : Int64))), none]) ⟨rfl, trivial⟩ ?_
      exact (k7 c1 c2 c3 c4 c7 c10)
    refine ax_if_ge (tgt := 120) (q := 116) dX7_join_113 (by decide) rfl (fun c11 => ?_) (fun c11 => ?_)
    · refine ax_lconst (q := 121) (v := 0) dX7_join_120 rfl rfl ?_
      exact ax_cvl (if_pos c11) K12
    · refine ax_lconst (q := 117) (v := 1) dX7_join_116 rfl rfl ?_
      refine ax_goto (tgt := 121) dX7_join_117 (by decide) ?_
      exact ax_cvl (if_neg c11) K12
  by_cases c13 : (a0 = (8 : Int32))
  · refine ax_tableIn (tgt := 126) (off := 125) dX7_join_1 (by rw [c13]; decide) (by rw [c13]; decide) (by rw [c13]; decide) (by decide) ?_
    refine ax_lload_n (q := 127) (i := 1) dX7_join_126 rfl rfl rfl ?_
    refine ax_lload_n (q := 128) (i := 3) dX7_join_127 rfl rfl rfl ?_
    refine ax_lcmp (q := 129) dX7_join_128 rfl ?_
    have K15 : ax_W shC (d + 1) mX7_join Q 137 [some (ax_i a0), some (ax_l a1), none, some (ax_l a2), none, none, none] [ax_l (if ((lg_cmp a1 a2) ≤ 0) then (0 : Int64) else (1 : Int64))] σ := by
      refine ax_lstore (q := 139) (lv2 := [some (ax_i a0), some (ax_l a1), none, some (ax_l a2), none, some (ax_l (if ((lg_cmp a1 a2) ≤ 0) then (0 : Int64) else (1 : Int64))), none]) dX7_join_137 rfl (by decide) rfl rfl ?_
      refine ax_goto (tgt := 183) dX7_join_139 (by decide) ?_
      refine ax_fg (lv2 := [none, none, none, none, none, some (ax_l (if ((lg_cmp a1 a2) ≤ 0) then (0 : Int64) else (1 : Int64))), none]) ⟨rfl, trivial⟩ ?_
      exact (k8 c1 c2 c3 c4 c7 c10 c13)
    refine ax_if_le (tgt := 136) (q := 132) dX7_join_129 (by decide) rfl (fun c14 => ?_) (fun c14 => ?_)
    · refine ax_lconst (q := 137) (v := 0) dX7_join_136 rfl rfl ?_
      exact ax_cvl (if_pos c14) K15
    · refine ax_lconst (q := 133) (v := 1) dX7_join_132 rfl rfl ?_
      refine ax_goto (tgt := 137) dX7_join_133 (by decide) ?_
      exact ax_cvl (if_neg c14) K15
  by_cases c16 : (a0 = (9 : Int32))
  · refine ax_tableIn (tgt := 164) (off := 163) dX7_join_1 (by rw [c16]; decide) (by rw [c16]; decide) (by rw [c16]; decide) (by decide) ?_
    refine ax_lload_n (q := 165) (i := 1) dX7_join_164 rfl rfl rfl ?_
    refine ax_lconst (q := 166) (v := 0) dX7_join_165 rfl rfl ?_
    refine ax_lcmp (q := 167) dX7_join_166 rfl ?_
    have K19 : ax_W shC (d + 1) mX7_join Q 181 [some (ax_i a0), some (ax_l a1), none, some (ax_l a2), none, none, none] [ax_l (if (¬ (lg_cmp a1 (0 : Int64)) = 0) then (1 : Int64) else (if ((lg_cmp a2 (0 : Int64)) = 0) then (0 : Int64) else (1 : Int64)))] σ := by
      refine ax_lstore (q := 183) (lv2 := [some (ax_i a0), some (ax_l a1), none, some (ax_l a2), none, some (ax_l (if (¬ (lg_cmp a1 (0 : Int64)) = 0) then (1 : Int64) else (if ((lg_cmp a2 (0 : Int64)) = 0) then (0 : Int64) else (1 : Int64)))), none]) dX7_join_181 rfl (by decide) rfl rfl ?_
      refine ax_fg (lv2 := [none, none, none, none, none, some (ax_l (if (¬ (lg_cmp a1 (0 : Int64)) = 0) then (1 : Int64) else (if ((lg_cmp a2 (0 : Int64)) = 0) then (0 : Int64) else (1 : Int64)))), none]) ⟨rfl, trivial⟩ ?_
      exact (k9 c1 c2 c3 c4 c7 c10 c13 c16)
    refine ax_if_ne (tgt := 176) (q := 170) dX7_join_167 (by decide) rfl (fun c17 => ?_) (fun c17 => ?_)
    · refine ax_lconst (q := 177) (v := 1) dX7_join_176 rfl rfl ?_
      refine ax_goto (tgt := 181) dX7_join_177 (by decide) ?_
      exact ax_cvl (if_pos c17) K19
    · refine ax_lload_n (q := 171) (i := 3) dX7_join_170 rfl rfl rfl ?_
      refine ax_lconst (q := 172) (v := 0) dX7_join_171 rfl rfl ?_
      refine ax_lcmp (q := 173) dX7_join_172 rfl ?_
      refine ax_if_eq (tgt := 180) (q := 176) dX7_join_173 (by decide) rfl (fun c18 => ?_) (fun c18 => ?_)
      · refine ax_lconst (q := 181) (v := 0) dX7_join_180 rfl rfl ?_
        exact ax_cvl ((if_neg c17).trans (if_pos c18)) K19
      · refine ax_lconst (q := 177) (v := 1) dX7_join_176 rfl rfl ?_
        refine ax_goto (tgt := 181) dX7_join_177 (by decide) ?_
        exact ax_cvl ((if_neg c17).trans (if_neg c18)) K19
  by_cases c20 : (a0 = (10 : Int32))
  · refine ax_tableIn (tgt := 142) (off := 141) dX7_join_1 (by rw [c20]; decide) (by rw [c20]; decide) (by rw [c20]; decide) (by decide) ?_
    refine ax_lload_n (q := 143) (i := 1) dX7_join_142 rfl rfl rfl ?_
    refine ax_lconst (q := 144) (v := 0) dX7_join_143 rfl rfl ?_
    refine ax_lcmp (q := 145) dX7_join_144 rfl ?_
    have K23 : ax_W shC (d + 1) mX7_join Q 159 [some (ax_i a0), some (ax_l a1), none, some (ax_l a2), none, none, none] [ax_l (if ((lg_cmp a1 (0 : Int64)) = 0) then (0 : Int64) else (if ((lg_cmp a2 (0 : Int64)) = 0) then (0 : Int64) else (1 : Int64)))] σ := by
      refine ax_lstore (q := 161) (lv2 := [some (ax_i a0), some (ax_l a1), none, some (ax_l a2), none, some (ax_l (if ((lg_cmp a1 (0 : Int64)) = 0) then (0 : Int64) else (if ((lg_cmp a2 (0 : Int64)) = 0) then (0 : Int64) else (1 : Int64)))), none]) dX7_join_159 rfl (by decide) rfl rfl ?_
      refine ax_goto (tgt := 183) dX7_join_161 (by decide) ?_
      refine ax_fg (lv2 := [none, none, none, none, none, some (ax_l (if ((lg_cmp a1 (0 : Int64)) = 0) then (0 : Int64) else (if ((lg_cmp a2 (0 : Int64)) = 0) then (0 : Int64) else (1 : Int64)))), none]) ⟨rfl, trivial⟩ ?_
      exact (k10 c1 c2 c3 c4 c7 c10 c13 c16 c20)
    refine ax_if_eq (tgt := 158) (q := 148) dX7_join_145 (by decide) rfl (fun c21 => ?_) (fun c21 => ?_)
    · refine ax_lconst (q := 159) (v := 0) dX7_join_158 rfl rfl ?_
      exact ax_cvl (if_pos c21) K23
    · refine ax_lload_n (q := 149) (i := 3) dX7_join_148 rfl rfl rfl ?_
      refine ax_lconst (q := 150) (v := 0) dX7_join_149 rfl rfl ?_
      refine ax_lcmp (q := 151) dX7_join_150 rfl ?_
      refine ax_if_eq (tgt := 158) (q := 154) dX7_join_151 (by decide) rfl (fun c22 => ?_) (fun c22 => ?_)
      · refine ax_lconst (q := 159) (v := 0) dX7_join_158 rfl rfl ?_
        exact ax_cvl ((if_neg c21).trans (if_pos c22)) K23
      · refine ax_lconst (q := 155) (v := 1) dX7_join_154 rfl rfl ?_
        refine ax_goto (tgt := 159) dX7_join_155 (by decide) ?_
        exact ax_cvl ((if_neg c21).trans (if_neg c22)) K23
  · refine ax_tableOut (tgt := 164) dX7_join_1 (by have z0 := ax_net (k := 2) (2) (by decide) c1; have z1 := ax_net (k := 3) (3) (by decide) c2; have z2 := ax_net (k := 4) (4) (by decide) c3; have z3 := ax_net (k := 5) (5) (by decide) c4; have z4 := ax_net (k := 6) (6) (by decide) c7; have z5 := ax_net (k := 7) (7) (by decide) c10; have z6 := ax_net (k := 8) (8) (by decide) c13; have z7 := ax_net (k := 9) (9) (by decide) c16; have z8 := ax_net (k := 10) (10) (by decide) c20; omega) (by decide) ?_
    refine ax_lload_n (q := 165) (i := 1) dX7_join_164 rfl rfl rfl ?_
    refine ax_lconst (q := 166) (v := 0) dX7_join_165 rfl rfl ?_
    refine ax_lcmp (q := 167) dX7_join_166 rfl ?_
    have K26 : ax_W shC (d + 1) mX7_join Q 181 [some (ax_i a0), some (ax_l a1), none, some (ax_l a2), none, none, none] [ax_l (if (¬ (lg_cmp a1 (0 : Int64)) = 0) then (1 : Int64) else (if ((lg_cmp a2 (0 : Int64)) = 0) then (0 : Int64) else (1 : Int64)))] σ := by
      refine ax_lstore (q := 183) (lv2 := [some (ax_i a0), some (ax_l a1), none, some (ax_l a2), none, some (ax_l (if (¬ (lg_cmp a1 (0 : Int64)) = 0) then (1 : Int64) else (if ((lg_cmp a2 (0 : Int64)) = 0) then (0 : Int64) else (1 : Int64)))), none]) dX7_join_181 rfl (by decide) rfl rfl ?_
      refine ax_fg (lv2 := [none, none, none, none, none, some (ax_l (if (¬ (lg_cmp a1 (0 : Int64)) = 0) then (1 : Int64) else (if ((lg_cmp a2 (0 : Int64)) = 0) then (0 : Int64) else (1 : Int64)))), none]) ⟨rfl, trivial⟩ ?_
      exact (k11 c1 c2 c3 c4 c7 c10 c13 c16 c20)
    refine ax_if_ne (tgt := 176) (q := 170) dX7_join_167 (by decide) rfl (fun c24 => ?_) (fun c24 => ?_)
    · refine ax_lconst (q := 177) (v := 1) dX7_join_176 rfl rfl ?_
      refine ax_goto (tgt := 181) dX7_join_177 (by decide) ?_
      exact ax_cvl (if_pos c24) K26
    · refine ax_lload_n (q := 171) (i := 3) dX7_join_170 rfl rfl rfl ?_
      refine ax_lconst (q := 172) (v := 0) dX7_join_171 rfl rfl ?_
      refine ax_lcmp (q := 173) dX7_join_172 rfl ?_
      refine ax_if_eq (tgt := 180) (q := 176) dX7_join_173 (by decide) rfl (fun c25 => ?_) (fun c25 => ?_)
      · refine ax_lconst (q := 181) (v := 0) dX7_join_180 rfl rfl ?_
        exact ax_cvl ((if_neg c24).trans (if_pos c25)) K26
      · refine ax_lconst (q := 177) (v := 1) dX7_join_176 rfl rfl ?_
        refine ax_goto (tgt := 181) dX7_join_177 (by decide) ?_
        exact ax_cvl ((if_neg c24).trans (if_neg c25)) K26
set_option maxRecDepth 20000 in
theorem s_X7_join_183 {d : Nat} (hd : 0 ≤ d) {Q : Option ax_V → ax_S → Prop} (σ : ax_S) (x5 : Int64) (k1 : ((lg_cmp x5 (1000000 : Int64)) ≤ 0) → Q (some (ax_i (if (0 ≤ (lg_cmp x5 (-1000000 : Int64))) then (Int64.toInt32 x5) else (-1000000 : Int32)))) σ) (k2 : (¬ ((lg_cmp x5 (1000000 : Int64)) ≤ 0)) → Q (some (ax_i (1000000 : Int32))) σ) : ax_W shC (d + 1) mX7_join Q 183 [none, none, none, none, none, some (ax_l x5), none] [] σ := by
  refine ax_lload (q := 185) dX7_join_183 rfl rfl ?_
  refine ax_ldc2 (q := 188) dX7_join_185 rfl kc_X7_58 ?_
  refine ax_lcmp (q := 189) dX7_join_188 rfl ?_
  refine ax_if_le (tgt := 195) (q := 192) dX7_join_189 (by decide) rfl (fun c1 => ?_) (fun c1 => ?_)
  · refine ax_lload (q := 197) dX7_join_195 rfl rfl ?_
    refine ax_ldc2 (q := 200) dX7_join_197 rfl kc_X7_61 ?_
    refine ax_lcmp (q := 201) dX7_join_200 rfl ?_
    have K3 : ax_W shC (d + 1) mX7_join Q 212 [none, none, none, none, none, some (ax_l x5), none] [ax_i (if (0 ≤ (lg_cmp x5 (-1000000 : Int64))) then (Int64.toInt32 x5) else (-1000000 : Int32))] σ := by
      exact ax_iret dX7_join_212 rfl rfl (k1 c1)
    refine ax_if_ge (tgt := 209) (q := 204) dX7_join_201 (by decide) rfl (fun c2 => ?_) (fun c2 => ?_)
    · refine ax_lload (q := 211) dX7_join_209 rfl rfl ?_
      refine ax_l2i (q := 212) dX7_join_211 rfl ?_
      exact ax_cv (if_pos c2) K3
    · refine ax_ldc (q := 206) dX7_join_204 rfl kc_X7_63 ?_
      refine ax_goto (tgt := 212) dX7_join_206 (by decide) ?_
      exact ax_cv (if_neg c2) K3
  · refine ax_ldc (q := 194) dX7_join_192 rfl kc_X7_60 ?_
    exact ax_iret dX7_join_194 rfl rfl (k2 c1)
set_option maxRecDepth 20000 in
theorem s_X7_pop_0 {d : Nat} (hd : 0 ≤ d) {Q : Option ax_V → ax_S → Prop} (σ : ax_S)  (h1 : ((1 : Int32) ≤ (σ.1 4 6)) → vp_in ((σ.1 4 6) - (1 : Int32)) 64) (k2 : ((1 : Int32) ≤ (σ.1 4 6)) → Q (some (ax_i (σ.1 22 (Int32.toNatClampNeg ((σ.1 4 6) - (1 : Int32)))))) (ax_ui σ 4 6 ((σ.1 4 6) - (1 : Int32)))) (k3 : (¬ ((1 : Int32) ≤ (σ.1 4 6))) → Q (some (ax_i (0 : Int32))) σ) : ax_W shC (d + 1) mX7_pop Q 0 [some (ax_r 4)] [] σ := by
  refine ax_aload_n (q := 1) (i := 0) dX7_pop_0 rfl rfl rfl ?_
  refine ax_get (q := 4) (k := 4) (j := 6) (v := ax_i (σ.1 4 6)) dX7_pop_1 rfl shC_4 rfl rfl rfl (by decide) fl_X7_43 ?_
  refine ax_iconst (q := 5) dX7_pop_4 rfl ki_1 ?_
  refine ax_icmp_ge (tgt := 10) (q := 8) dX7_pop_5 (by decide) rfl (fun c1 => ?_) (fun c1 => ?_)
  · refine ax_aload_n (q := 11) (i := 0) dX7_pop_10 rfl rfl rfl ?_
    refine ax_dupr (q := 12) dX7_pop_11 rfl ?_
    refine ax_get (q := 15) (k := 4) (j := 6) (v := ax_i (σ.1 4 6)) dX7_pop_12 rfl shC_4 rfl rfl rfl (by decide) fl_X7_43 ?_
    refine ax_iconst (q := 16) dX7_pop_15 rfl ki_1 ?_
    refine ax_isub (q := 17) dX7_pop_16 rfl ?_
    refine ax_puti (q := 20) (k := 4) (j := 6) dX7_pop_17 rfl shC_4 rfl rfl (by decide) fl_X7_43 rfl rfl rfl rfl ?_
    refine ax_aload_n (q := 21) (i := 0) dX7_pop_20 rfl rfl rfl ?_
    refine ax_get (q := 24) (k := 4) (j := 3) (v := ax_r 22) dX7_pop_21 rfl shC_4 rfl rfl rfl (by decide) fl_X7_23 ?_
    refine ax_aload_n (q := 25) (i := 0) dX7_pop_24 rfl rfl rfl ?_
    refine ax_get (q := 28) (k := 4) (j := 6) (v := ax_i ((σ.1 4 6) - (1 : Int32))) dX7_pop_25 rfl shC_4 rfl rfl rfl (by decide) fl_X7_43 ?_
    refine ax_iald (q := 29) (a := (Int32.toNatClampNeg ((σ.1 4 6) - (1 : Int32)))) (v := (σ.1 22 (Int32.toNatClampNeg ((σ.1 4 6) - (1 : Int32))))) dX7_pop_28 rfl shC_22 (h1 c1) rfl rfl ?_
    exact ax_iret dX7_pop_29 rfl rfl (k2 c1)
  · refine ax_iconst (q := 9) dX7_pop_8 rfl ki_0 ?_
    exact ax_iret dX7_pop_9 rfl rfl (k3 c1)
set_option maxRecDepth 20000 in
theorem s_X7_push_0 {d : Nat} (hd : 0 ≤ d) {Q : Option ax_V → ax_S → Prop} (σ : ax_S) (a0 : Int32) (k1 : ((Int32.ofNat 64) ≤ (σ.1 4 6)) → Q none σ) (h2 : (¬ ((Int32.ofNat 64) ≤ (σ.1 4 6))) → vp_in (σ.1 4 6) 64) (k3 : (¬ ((Int32.ofNat 64) ≤ (σ.1 4 6))) → Q none (ax_ui (ax_ui σ 22 (Int32.toNatClampNeg (σ.1 4 6)) a0) 4 6 ((σ.1 4 6) + (1 : Int32)))) : ax_W shC (d + 1) mX7_push Q 0 [some (ax_r 4), some (ax_i a0)] [] σ := by
  refine ax_aload_n (q := 1) (i := 0) dX7_push_0 rfl rfl rfl ?_
  refine ax_get (q := 4) (k := 4) (j := 6) (v := ax_i (σ.1 4 6)) dX7_push_1 rfl shC_4 rfl rfl rfl (by decide) fl_X7_43 ?_
  refine ax_aload_n (q := 5) (i := 0) dX7_push_4 rfl rfl rfl ?_
  refine ax_get (q := 8) (k := 4) (j := 3) (v := ax_r 22) dX7_push_5 rfl shC_4 rfl rfl rfl (by decide) fl_X7_23 ?_
  refine ax_alen (q := 9) dX7_push_8 rfl shC_22 ?_
  refine ax_icmp_ge (tgt := 32) (q := 12) dX7_push_9 (by decide) rfl (fun c1 => ?_) (fun c1 => ?_)
  · exact ax_vret dX7_push_32 rfl (k1 c1)
  · refine ax_aload_n (q := 13) (i := 0) dX7_push_12 rfl rfl rfl ?_
    refine ax_get (q := 16) (k := 4) (j := 3) (v := ax_r 22) dX7_push_13 rfl shC_4 rfl rfl rfl (by decide) fl_X7_23 ?_
    refine ax_aload_n (q := 17) (i := 0) dX7_push_16 rfl rfl rfl ?_
    refine ax_get (q := 20) (k := 4) (j := 6) (v := ax_i (σ.1 4 6)) dX7_push_17 rfl shC_4 rfl rfl rfl (by decide) fl_X7_43 ?_
    refine ax_iload_n (q := 21) (i := 1) dX7_push_20 rfl rfl rfl ?_
    refine ax_iast (q := 22) (a := (Int32.toNatClampNeg (σ.1 4 6))) dX7_push_21 rfl shC_22 (h2 c1) rfl ?_
    refine ax_aload_n (q := 23) (i := 0) dX7_push_22 rfl rfl rfl ?_
    refine ax_dupr (q := 24) dX7_push_23 rfl ?_
    refine ax_get (q := 27) (k := 4) (j := 6) (v := ax_i (σ.1 4 6)) dX7_push_24 rfl shC_4 rfl rfl rfl (by decide) fl_X7_43 ?_
    refine ax_iconst (q := 28) dX7_push_27 rfl ki_1 ?_
    refine ax_iadd (q := 29) dX7_push_28 rfl ?_
    refine ax_puti (q := 32) (k := 4) (j := 6) dX7_push_29 rfl shC_4 rfl rfl (by decide) fl_X7_43 rfl rfl rfl rfl ?_
    exact ax_vret dX7_push_32 rfl (k3 c1)
set_option maxRecDepth 20000 in
theorem s_X7_worth_0 {d : Nat} (hd : 0 ≤ d) {Q : Option ax_V → ax_S → Prop} (σ : ax_S)  (k1 : ((σ.1 4 5) < 0) → Q (some (ax_i (0 : Int32))) σ) (k2 : (¬ ((σ.1 4 5) < 0)) → ((σ.1 4 5) < (σ.1 4 4)) → ax_W shC (d + 1) mX7_worth Q 36 [some (ax_r 4), some (ax_i ((σ.1 4 5) * (240 : Int32))), some (ax_i (0 : Int32)), none, none, none, none] [] (ax_ui σ 4 6 (0 : Int32))) (k3 : (¬ ((σ.1 4 5) < 0)) → (¬ ((σ.1 4 5) < (σ.1 4 4))) → Q (some (ax_i (0 : Int32))) σ) : ax_W shC (d + 1) mX7_worth Q 0 [some (ax_r 4), none, none, none, none, none, none] [] σ := by
  refine ax_aload_n (q := 1) (i := 0) dX7_worth_0 rfl rfl rfl ?_
  refine ax_get (q := 4) (k := 4) (j := 5) (v := ax_i (σ.1 4 5)) dX7_worth_1 rfl shC_4 rfl rfl rfl (by decide) fl_X7_26 ?_
  refine ax_if_lt (tgt := 18) (q := 7) dX7_worth_4 (by decide) rfl (fun c1 => ?_) (fun c1 => ?_)
  · refine ax_iconst (q := 19) dX7_worth_18 rfl ki_0 ?_
    exact ax_iret dX7_worth_19 rfl rfl (k1 c1)
  · refine ax_aload_n (q := 8) (i := 0) dX7_worth_7 rfl rfl rfl ?_
    refine ax_get (q := 11) (k := 4) (j := 5) (v := ax_i (σ.1 4 5)) dX7_worth_8 rfl shC_4 rfl rfl rfl (by decide) fl_X7_26 ?_
    refine ax_aload_n (q := 12) (i := 0) dX7_worth_11 rfl rfl rfl ?_
    refine ax_get (q := 15) (k := 4) (j := 4) (v := ax_i (σ.1 4 4)) dX7_worth_12 rfl shC_4 rfl rfl rfl (by decide) fl_X7_30 ?_
    refine ax_icmp_lt (tgt := 20) (q := 18) dX7_worth_15 (by decide) rfl (fun c2 => ?_) (fun c2 => ?_)
    · refine ax_aload_n (q := 21) (i := 0) dX7_worth_20 rfl rfl rfl ?_
      refine ax_get (q := 24) (k := 4) (j := 5) (v := ax_i (σ.1 4 5)) dX7_worth_21 rfl shC_4 rfl rfl rfl (by decide) fl_X7_26 ?_
      refine ax_sipush (q := 27) dX7_worth_24 rfl ks_240 ?_
      refine ax_imul (q := 28) dX7_worth_27 rfl ?_
      refine ax_istore_n (q := 29) (i := 1) (lv2 := [some (ax_r 4), some (ax_i ((σ.1 4 5) * (240 : Int32))), none, none, none, none, none]) dX7_worth_28 rfl rfl (by decide) rfl rfl ?_
      refine ax_aload_n (q := 30) (i := 0) dX7_worth_29 rfl rfl rfl ?_
      refine ax_iconst (q := 31) dX7_worth_30 rfl ki_0 ?_
      refine ax_puti (q := 34) (k := 4) (j := 6) dX7_worth_31 rfl shC_4 rfl rfl (by decide) fl_X7_43 rfl rfl rfl rfl ?_
      refine ax_iconst (q := 35) dX7_worth_34 rfl ki_0 ?_
      refine ax_istore_n (q := 36) (i := 2) (lv2 := [some (ax_r 4), some (ax_i ((σ.1 4 5) * (240 : Int32))), some (ax_i (0 : Int32)), none, none, none, none]) dX7_worth_35 rfl rfl (by decide) rfl rfl ?_
      exact (k2 c1 c2)
    · refine ax_iconst (q := 19) dX7_worth_18 rfl ki_0 ?_
      exact ax_iret dX7_worth_19 rfl rfl (k3 c1 c2)
set_option maxRecDepth 20000 in
theorem s_X7_worth_36 {d : Nat} (hd : 0 ≤ d) {Q : Option ax_V → ax_S → Prop} (σ : ax_S) (x1 : Int32) (x2 : Int32) (h1 : vp_in (σ.1 4 5) 4) (k2 : ((σ.1 20 (Int32.toNatClampNeg (σ.1 4 5))) ≤ x2) → Q (some (ax_i (0 : Int32))) σ) (h3 : (¬ ((σ.1 20 (Int32.toNatClampNeg (σ.1 4 5))) ≤ x2)) → vp_in (x1 + x2) 960) (k4 : (¬ ((σ.1 20 (Int32.toNatClampNeg (σ.1 4 5))) ≤ x2)) → (¬ ((σ.1 19 (Int32.toNatClampNeg (x1 + x2))) &&& (15 : Int32)) = (13 : Int32)) → (¬ ((σ.1 19 (Int32.toNatClampNeg (x1 + x2))) &&& (15 : Int32)) = (12 : Int32)) → (¬ ((σ.1 19 (Int32.toNatClampNeg (x1 + x2))) &&& (15 : Int32)) = 0) → (¬ ((σ.1 19 (Int32.toNatClampNeg (x1 + x2))) &&& (15 : Int32)) = (1 : Int32)) → (¬ ((σ.1 19 (Int32.toNatClampNeg (x1 + x2))) &&& (15 : Int32)) = (9 : Int32)) → ax_Ct shC d mX7_pop [ax_r 4] (fun r u => ∃ x : Int32, r = some (ax_i x) ∧ ax_W shC (d + 1) mX7_worth Q 184 [some (ax_r 4), some (ax_i x1), some (ax_i x2), some (ax_i ((σ.1 19 (Int32.toNatClampNeg (x1 + x2))) &&& (15 : Int32))), none, none, none] (ax_i x :: []) u) σ) (k5 : (¬ ((σ.1 20 (Int32.toNatClampNeg (σ.1 4 5))) ≤ x2)) → (¬ ((σ.1 19 (Int32.toNatClampNeg (x1 + x2))) &&& (15 : Int32)) = (13 : Int32)) → (¬ ((σ.1 19 (Int32.toNatClampNeg (x1 + x2))) &&& (15 : Int32)) = (12 : Int32)) → (¬ ((σ.1 19 (Int32.toNatClampNeg (x1 + x2))) &&& (15 : Int32)) = 0) → (¬ ((σ.1 19 (Int32.toNatClampNeg (x1 + x2))) &&& (15 : Int32)) = (1 : Int32)) → (¬ (¬ ((σ.1 19 (Int32.toNatClampNeg (x1 + x2))) &&& (15 : Int32)) = (9 : Int32))) → ax_Ct shC d mX7_pop [ax_r 4] (fun r u => ∃ x : Int32, r = some (ax_i x) ∧ ax_W shC (d + 1) mX7_worth Q 173 [some (ax_r 4), some (ax_i x1), some (ax_i x2), none, none, none, none] (ax_i x :: [ax_i (1 : Int32), ax_r 4]) u) σ) (h6 : (¬ ((σ.1 20 (Int32.toNatClampNeg (σ.1 4 5))) ≤ x2)) → (¬ ((σ.1 19 (Int32.toNatClampNeg (x1 + x2))) &&& (15 : Int32)) = (13 : Int32)) → (¬ ((σ.1 19 (Int32.toNatClampNeg (x1 + x2))) &&& (15 : Int32)) = (12 : Int32)) → (¬ ((σ.1 19 (Int32.toNatClampNeg (x1 + x2))) &&& (15 : Int32)) = 0) → (¬ (¬ ((σ.1 19 (Int32.toNatClampNeg (x1 + x2))) &&& (15 : Int32)) = (1 : Int32))) → (¬ ((Int32.ofNat 6) ≤ ((σ.1 19 (Int32.toNatClampNeg (x1 + x2))) >>> ((4 : Int32) &&& 31)))) → vp_in ((σ.1 19 (Int32.toNatClampNeg (x1 + x2))) >>> ((4 : Int32) &&& 31)) 6) (k7 : (¬ ((σ.1 20 (Int32.toNatClampNeg (σ.1 4 5))) ≤ x2)) → (¬ ((σ.1 19 (Int32.toNatClampNeg (x1 + x2))) &&& (15 : Int32)) = (13 : Int32)) → (¬ ((σ.1 19 (Int32.toNatClampNeg (x1 + x2))) &&& (15 : Int32)) = (12 : Int32)) → (¬ ((σ.1 19 (Int32.toNatClampNeg (x1 + x2))) &&& (15 : Int32)) = 0) → (¬ (¬ ((σ.1 19 (Int32.toNatClampNeg (x1 + x2))) &&& (15 : Int32)) = (1 : Int32))) → ax_Ct shC d mX7_push [ax_r 4, ax_i (if ((Int32.ofNat 6) ≤ ((σ.1 19 (Int32.toNatClampNeg (x1 + x2))) >>> ((4 : Int32) &&& 31))) then (0 : Int32) else (σ.1 21 (Int32.toNatClampNeg ((σ.1 19 (Int32.toNatClampNeg (x1 + x2))) >>> ((4 : Int32) &&& 31)))))] (fun r u => r = none ∧ ax_W shC (d + 1) mX7_worth Q 158 [some (ax_r 4), some (ax_i x1), some (ax_i x2), none, none, none, none] [] u) σ) (k8 : (¬ ((σ.1 20 (Int32.toNatClampNeg (σ.1 4 5))) ≤ x2)) → (¬ ((σ.1 19 (Int32.toNatClampNeg (x1 + x2))) &&& (15 : Int32)) = (13 : Int32)) → (¬ ((σ.1 19 (Int32.toNatClampNeg (x1 + x2))) &&& (15 : Int32)) = (12 : Int32)) → (¬ (¬ ((σ.1 19 (Int32.toNatClampNeg (x1 + x2))) &&& (15 : Int32)) = 0)) → ax_Ct shC d mX7_push [ax_r 4, ax_i ((σ.1 19 (Int32.toNatClampNeg (x1 + x2))) >>> ((4 : Int32) &&& 31))] (fun r u => r = none ∧ ax_W shC (d + 1) mX7_worth Q 125 [some (ax_r 4), some (ax_i x1), some (ax_i x2), none, none, none, none] [] u) σ) (k9 : (¬ ((σ.1 20 (Int32.toNatClampNeg (σ.1 4 5))) ≤ x2)) → (¬ ((σ.1 19 (Int32.toNatClampNeg (x1 + x2))) &&& (15 : Int32)) = (13 : Int32)) → (¬ (¬ ((σ.1 19 (Int32.toNatClampNeg (x1 + x2))) &&& (15 : Int32)) = (12 : Int32))) → ax_Ct shC d mX7_pop [ax_r 4] (fun r u => ∃ x : Int32, r = some (ax_i x) ∧ ax_W shC (d + 1) mX7_worth Q 94 [some (ax_r 4), some (ax_i x1), some (ax_i x2), none, some (ax_i ((σ.1 19 (Int32.toNatClampNeg (x1 + x2))) >>> ((4 : Int32) &&& 31))), none, none] (ax_i x :: []) u) σ) (k10 : (¬ ((σ.1 20 (Int32.toNatClampNeg (σ.1 4 5))) ≤ x2)) → (¬ (¬ ((σ.1 19 (Int32.toNatClampNeg (x1 + x2))) &&& (15 : Int32)) = (13 : Int32))) → ax_Ct shC d mX7_pop [ax_r 4] (fun r u => ∃ x : Int32, r = some (ax_i x) ∧ ax_W shC (d + 1) mX7_worth Q 83 [none, none, none, none, none, none, none] (ax_i x :: []) u) σ) : ax_W shC (d + 1) mX7_worth Q 36 [some (ax_r 4), some (ax_i x1), some (ax_i x2), none, none, none, none] [] σ := by
  refine ax_iload_n (q := 37) (i := 2) dX7_worth_36 rfl rfl rfl ?_
  refine ax_aload_n (q := 38) (i := 0) dX7_worth_37 rfl rfl rfl ?_
  refine ax_get (q := 41) (k := 4) (j := 1) (v := ax_r 20) dX7_worth_38 rfl shC_4 rfl rfl rfl (by decide) fl_X7_17 ?_
  refine ax_aload_n (q := 42) (i := 0) dX7_worth_41 rfl rfl rfl ?_
  refine ax_get (q := 45) (k := 4) (j := 5) (v := ax_i (σ.1 4 5)) dX7_worth_42 rfl shC_4 rfl rfl rfl (by decide) fl_X7_26 ?_
  refine ax_iald (q := 46) (a := (Int32.toNatClampNeg (σ.1 4 5))) (v := (σ.1 20 (Int32.toNatClampNeg (σ.1 4 5)))) dX7_worth_45 rfl shC_20 h1 rfl rfl ?_
  refine ax_icmp_ge (tgt := 208) (q := 49) dX7_worth_46 (by decide) rfl (fun c1 => ?_) (fun c1 => ?_)
  · refine ax_iconst (q := 209) dX7_worth_208 rfl ki_0 ?_
    exact ax_iret dX7_worth_209 rfl rfl (k2 c1)
  · refine ax_aload_n (q := 50) (i := 0) dX7_worth_49 rfl rfl rfl ?_
    refine ax_get (q := 53) (k := 4) (j := 0) (v := ax_r 19) dX7_worth_50 rfl shC_4 rfl rfl rfl (by decide) fl_X7_11 ?_
    refine ax_iload_n (q := 54) (i := 1) dX7_worth_53 rfl rfl rfl ?_
    refine ax_iload_n (q := 55) (i := 2) dX7_worth_54 rfl rfl rfl ?_
    refine ax_iadd (q := 56) dX7_worth_55 rfl ?_
    refine ax_iald (q := 57) (a := (Int32.toNatClampNeg (x1 + x2))) (v := (σ.1 19 (Int32.toNatClampNeg (x1 + x2)))) dX7_worth_56 rfl shC_19 (h3 c1) rfl rfl ?_
    refine ax_bipush (q := 59) dX7_worth_57 rfl kb_15 ?_
    refine ax_iand (q := 60) dX7_worth_59 rfl ?_
    refine ax_istore_n (q := 61) (i := 3) (lv2 := [some (ax_r 4), some (ax_i x1), some (ax_i x2), some (ax_i ((σ.1 19 (Int32.toNatClampNeg (x1 + x2))) &&& (15 : Int32))), none, none, none]) dX7_worth_60 rfl rfl (by decide) rfl rfl ?_
    refine ax_aload_n (q := 62) (i := 0) dX7_worth_61 rfl rfl rfl ?_
    refine ax_get (q := 65) (k := 4) (j := 0) (v := ax_r 19) dX7_worth_62 rfl shC_4 rfl rfl rfl (by decide) fl_X7_11 ?_
    refine ax_iload_n (q := 66) (i := 1) dX7_worth_65 rfl rfl rfl ?_
    refine ax_iload_n (q := 67) (i := 2) dX7_worth_66 rfl rfl rfl ?_
    refine ax_iadd (q := 68) dX7_worth_67 rfl ?_
    refine ax_iald (q := 69) (a := (Int32.toNatClampNeg (x1 + x2))) (v := (σ.1 19 (Int32.toNatClampNeg (x1 + x2)))) dX7_worth_68 rfl shC_19 (h3 c1) rfl rfl ?_
    refine ax_iconst (q := 70) dX7_worth_69 rfl ki_4 ?_
    refine ax_ishr (q := 71) dX7_worth_70 rfl ?_
    refine ax_istore (q := 73) (lv2 := [some (ax_r 4), some (ax_i x1), some (ax_i x2), some (ax_i ((σ.1 19 (Int32.toNatClampNeg (x1 + x2))) &&& (15 : Int32))), some (ax_i ((σ.1 19 (Int32.toNatClampNeg (x1 + x2))) >>> ((4 : Int32) &&& 31))), none, none]) dX7_worth_71 rfl (by decide) rfl rfl ?_
    refine ax_iload_n (q := 74) (i := 3) dX7_worth_73 rfl rfl rfl ?_
    refine ax_bipush (q := 76) dX7_worth_74 rfl kb_13 ?_
    refine ax_icmp_ne (tgt := 84) (q := 79) dX7_worth_76 (by decide) rfl (fun c2 => ?_) (fun c2 => ?_)
    · refine ax_iload_n (q := 85) (i := 3) dX7_worth_84 rfl rfl rfl ?_
      refine ax_bipush (q := 87) dX7_worth_85 rfl kb_12 ?_
      refine ax_icmp_ne (tgt := 115) (q := 90) dX7_worth_87 (by decide) rfl (fun c3 => ?_) (fun c3 => ?_)
      · refine ax_iload_n (q := 116) (i := 3) dX7_worth_115 rfl rfl rfl ?_
        refine ax_if_ne (tgt := 128) (q := 119) dX7_worth_116 (by decide) rfl (fun c4 => ?_) (fun c4 => ?_)
        · refine ax_iload_n (q := 129) (i := 3) dX7_worth_128 rfl rfl rfl ?_
          refine ax_iconst (q := 130) dX7_worth_129 rfl ki_1 ?_
          refine ax_icmp_ne (tgt := 161) (q := 133) dX7_worth_130 (by decide) rfl (fun c5 => ?_) (fun c5 => ?_)
          · refine ax_iload_n (q := 162) (i := 3) dX7_worth_161 rfl rfl rfl ?_
            refine ax_bipush (q := 164) dX7_worth_162 rfl kb_9 ?_
            refine ax_icmp_ne (tgt := 180) (q := 167) dX7_worth_164 (by decide) rfl (fun c6 => ?_) (fun c6 => ?_)
            · refine ax_aload_n (q := 181) (i := 0) dX7_worth_180 rfl rfl rfl ?_
              refine ax_fg (lv2 := [some (ax_r 4), some (ax_i x1), some (ax_i x2), some (ax_i ((σ.1 19 (Int32.toNatClampNeg (x1 + x2))) &&& (15 : Int32))), none, none, none]) ⟨rfl, rfl, rfl, rfl, trivial⟩ ?_
              exact ax_callVci (q := 184) (As := []) (st := []) dX7_worth_181 rfl lk_X7_46 shC_4 rfl rfl rfl rfl (Nat.le_of_ble_eq_true rfl) (k4 c1 c2 c3 c4 c5 c6)
            · refine ax_aload_n (q := 168) (i := 0) dX7_worth_167 rfl rfl rfl ?_
              refine ax_iconst (q := 169) dX7_worth_168 rfl ki_1 ?_
              refine ax_aload_n (q := 170) (i := 0) dX7_worth_169 rfl rfl rfl ?_
              refine ax_fg (lv2 := [some (ax_r 4), some (ax_i x1), some (ax_i x2), none, none, none, none]) ⟨rfl, rfl, rfl, trivial⟩ ?_
              exact ax_callVci (q := 173) (As := []) (st := [ax_i (1 : Int32), ax_r 4]) dX7_worth_170 rfl lk_X7_46 shC_4 rfl rfl rfl rfl (Nat.le_of_ble_eq_true rfl) (k5 c1 c2 c3 c4 c5 c6)
          · refine ax_aload_n (q := 134) (i := 0) dX7_worth_133 rfl rfl rfl ?_
            refine ax_iload (q := 136) dX7_worth_134 rfl rfl ?_
            refine ax_aload_n (q := 137) (i := 0) dX7_worth_136 rfl rfl rfl ?_
            refine ax_get (q := 140) (k := 4) (j := 2) (v := ax_r 21) dX7_worth_137 rfl shC_4 rfl rfl rfl (by decide) fl_X7_20 ?_
            refine ax_alen (q := 141) dX7_worth_140 rfl shC_21 ?_
            have K8 : ax_W shC (d + 1) mX7_worth Q 155 [some (ax_r 4), some (ax_i x1), some (ax_i x2), some (ax_i ((σ.1 19 (Int32.toNatClampNeg (x1 + x2))) &&& (15 : Int32))), some (ax_i ((σ.1 19 (Int32.toNatClampNeg (x1 + x2))) >>> ((4 : Int32) &&& 31))), none, none] [ax_i (if ((Int32.ofNat 6) ≤ ((σ.1 19 (Int32.toNatClampNeg (x1 + x2))) >>> ((4 : Int32) &&& 31))) then (0 : Int32) else (σ.1 21 (Int32.toNatClampNeg ((σ.1 19 (Int32.toNatClampNeg (x1 + x2))) >>> ((4 : Int32) &&& 31))))), ax_r 4] σ := by
              refine ax_fg (lv2 := [some (ax_r 4), some (ax_i x1), some (ax_i x2), none, none, none, none]) ⟨rfl, rfl, rfl, trivial⟩ ?_
              exact ax_callVcv (q := 158) (As := [ax_i (if ((Int32.ofNat 6) ≤ ((σ.1 19 (Int32.toNatClampNeg (x1 + x2))) >>> ((4 : Int32) &&& 31))) then (0 : Int32) else (σ.1 21 (Int32.toNatClampNeg ((σ.1 19 (Int32.toNatClampNeg (x1 + x2))) >>> ((4 : Int32) &&& 31)))))]) (st := []) dX7_worth_155 rfl lk_X7_50 shC_4 rfl rfl rfl rfl (Nat.le_of_ble_eq_true rfl) (k7 c1 c2 c3 c4 c5)
            refine ax_icmp_ge (tgt := 154) (q := 144) dX7_worth_141 (by decide) rfl (fun c7 => ?_) (fun c7 => ?_)
            · refine ax_iconst (q := 155) dX7_worth_154 rfl ki_0 ?_
              exact ax_cv (if_pos c7) K8
            · refine ax_aload_n (q := 145) (i := 0) dX7_worth_144 rfl rfl rfl ?_
              refine ax_get (q := 148) (k := 4) (j := 2) (v := ax_r 21) dX7_worth_145 rfl shC_4 rfl rfl rfl (by decide) fl_X7_20 ?_
              refine ax_iload (q := 150) dX7_worth_148 rfl rfl ?_
              refine ax_iald (q := 151) (a := (Int32.toNatClampNeg ((σ.1 19 (Int32.toNatClampNeg (x1 + x2))) >>> ((4 : Int32) &&& 31)))) (v := (σ.1 21 (Int32.toNatClampNeg ((σ.1 19 (Int32.toNatClampNeg (x1 + x2))) >>> ((4 : Int32) &&& 31))))) dX7_worth_150 rfl shC_21 (h6 c1 c2 c3 c4 c5 c7) rfl rfl ?_
              refine ax_goto (tgt := 155) dX7_worth_151 (by decide) ?_
              exact ax_cv (if_neg c7) K8
        · refine ax_aload_n (q := 120) (i := 0) dX7_worth_119 rfl rfl rfl ?_
          refine ax_iload (q := 122) dX7_worth_120 rfl rfl ?_
          refine ax_fg (lv2 := [some (ax_r 4), some (ax_i x1), some (ax_i x2), none, none, none, none]) ⟨rfl, rfl, rfl, trivial⟩ ?_
          exact ax_callVcv (q := 125) (As := [ax_i ((σ.1 19 (Int32.toNatClampNeg (x1 + x2))) >>> ((4 : Int32) &&& 31))]) (st := []) dX7_worth_122 rfl lk_X7_50 shC_4 rfl rfl rfl rfl (Nat.le_of_ble_eq_true rfl) (k8 c1 c2 c3 c4)
      · refine ax_aload_n (q := 91) (i := 0) dX7_worth_90 rfl rfl rfl ?_
        refine ax_fg (lv2 := [some (ax_r 4), some (ax_i x1), some (ax_i x2), none, some (ax_i ((σ.1 19 (Int32.toNatClampNeg (x1 + x2))) >>> ((4 : Int32) &&& 31))), none, none]) ⟨rfl, rfl, rfl, rfl, trivial⟩ ?_
        exact ax_callVci (q := 94) (As := []) (st := []) dX7_worth_91 rfl lk_X7_46 shC_4 rfl rfl rfl rfl (Nat.le_of_ble_eq_true rfl) (k9 c1 c2 c3)
    · refine ax_aload_n (q := 80) (i := 0) dX7_worth_79 rfl rfl rfl ?_
      refine ax_fg (lv2 := [none, none, none, none, none, none, none]) trivial ?_
      exact ax_callVci (q := 83) (As := []) (st := []) dX7_worth_80 rfl lk_X7_46 shC_4 rfl rfl rfl rfl (Nat.le_of_ble_eq_true rfl) (k10 c1 c2)
set_option maxRecDepth 20000 in
theorem s_X7_worth_125 {d : Nat} (hd : 0 ≤ d) {Q : Option ax_V → ax_S → Prop} (σ : ax_S) (x1 : Int32) (x2 : Int32) (k1 : ax_W shC (d + 1) mX7_worth Q 36 [some (ax_r 4), some (ax_i x1), some (ax_i (x2 + (1 : Int32))), none, none, none, none] [] σ) : ax_W shC (d + 1) mX7_worth Q 125 [some (ax_r 4), some (ax_i x1), some (ax_i x2), none, none, none, none] [] σ := by
  refine ax_goto (tgt := 202) dX7_worth_125 (by decide) ?_
  refine ax_iincK (q := 205) (lv2 := [some (ax_r 4), some (ax_i x1), some (ax_i (x2 + (1 : Int32))), none, none, none, none]) dX7_worth_202 rfl rfl ki_1 (by decide) rfl rfl ?_
  refine ax_goto (tgt := 36) dX7_worth_205 (by decide) ?_
  exact k1
set_option maxRecDepth 20000 in
theorem s_X7_worth_158 {d : Nat} (hd : 0 ≤ d) {Q : Option ax_V → ax_S → Prop} (σ : ax_S) (x1 : Int32) (x2 : Int32) (k1 : ax_W shC (d + 1) mX7_worth Q 36 [some (ax_r 4), some (ax_i x1), some (ax_i (x2 + (1 : Int32))), none, none, none, none] [] σ) : ax_W shC (d + 1) mX7_worth Q 158 [some (ax_r 4), some (ax_i x1), some (ax_i x2), none, none, none, none] [] σ := by
  refine ax_goto (tgt := 202) dX7_worth_158 (by decide) ?_
  refine ax_iincK (q := 205) (lv2 := [some (ax_r 4), some (ax_i x1), some (ax_i (x2 + (1 : Int32))), none, none, none, none]) dX7_worth_202 rfl rfl ki_1 (by decide) rfl rfl ?_
  refine ax_goto (tgt := 36) dX7_worth_205 (by decide) ?_
  exact k1
set_option maxRecDepth 20000 in
theorem s_X7_worth_173 {d : Nat} (hd : 0 ≤ d) {Q : Option ax_V → ax_S → Prop} (σ : ax_S) (x1 : Int32) (x2 : Int32) (rr : Int32) (y0 : Int32) (k1 : ax_Ct shC d mX7_push [ax_r 4, ax_i (y0 - rr)] (fun r u => r = none ∧ ax_W shC (d + 1) mX7_worth Q 177 [some (ax_r 4), some (ax_i x1), some (ax_i x2), none, none, none, none] [] u) σ) : ax_W shC (d + 1) mX7_worth Q 173 [some (ax_r 4), some (ax_i x1), some (ax_i x2), none, none, none, none] [ax_i rr, ax_i y0, ax_r 4] σ := by
  refine ax_isub (q := 174) dX7_worth_173 rfl ?_
  exact ax_callVcv (q := 177) (As := [ax_i (y0 - rr)]) (st := []) dX7_worth_174 rfl lk_X7_50 shC_4 rfl rfl rfl rfl (Nat.le_of_ble_eq_true rfl) k1
set_option maxRecDepth 20000 in
theorem s_X7_worth_184 {d : Nat} (hd : 0 ≤ d) {Q : Option ax_V → ax_S → Prop} (σ : ax_S) (x1 : Int32) (x2 : Int32) (x3 : Int32) (rr : Int32) (k1 : ax_Ct shC d mX7_pop [ax_r 4] (fun r u => ∃ x : Int32, r = some (ax_i x) ∧ ax_W shC (d + 1) mX7_worth Q 193 [some (ax_r 4), some (ax_i x1), some (ax_i x2), none, none, some (ax_l (Int32.toInt64 rr)), none] (ax_i x :: [ax_i x3, ax_r 4]) u) σ) : ax_W shC (d + 1) mX7_worth Q 184 [some (ax_r 4), some (ax_i x1), some (ax_i x2), some (ax_i x3), none, none, none] [ax_i rr] σ := by
  refine ax_i2l (q := 185) dX7_worth_184 rfl ?_
  refine ax_lstore (q := 187) (lv2 := [some (ax_r 4), some (ax_i x1), some (ax_i x2), some (ax_i x3), none, some (ax_l (Int32.toInt64 rr)), none]) dX7_worth_185 rfl (by decide) rfl rfl ?_
  refine ax_aload_n (q := 188) (i := 0) dX7_worth_187 rfl rfl rfl ?_
  refine ax_iload_n (q := 189) (i := 3) dX7_worth_188 rfl rfl rfl ?_
  refine ax_aload_n (q := 190) (i := 0) dX7_worth_189 rfl rfl rfl ?_
  refine ax_fg (lv2 := [some (ax_r 4), some (ax_i x1), some (ax_i x2), none, none, some (ax_l (Int32.toInt64 rr)), none]) ⟨rfl, rfl, rfl, rfl, trivial⟩ ?_
  exact ax_callVci (q := 193) (As := []) (st := [ax_i x3, ax_r 4]) dX7_worth_190 rfl lk_X7_46 shC_4 rfl rfl rfl rfl (Nat.le_of_ble_eq_true rfl) k1
set_option maxRecDepth 20000 in
theorem s_X7_worth_83 {d : Nat} (hd : 0 ≤ d) {Q : Option ax_V → ax_S → Prop} (σ : ax_S) (rr : Int32) (k1 : Q (some (ax_i rr)) σ) : ax_W shC (d + 1) mX7_worth Q 83 [none, none, none, none, none, none, none] [ax_i rr] σ := by
  exact ax_iret dX7_worth_83 rfl rfl k1
set_option maxRecDepth 20000 in
theorem s_X7_worth_94 {d : Nat} (hd : 0 ≤ d) {Q : Option ax_V → ax_S → Prop} (σ : ax_S) (x1 : Int32) (x2 : Int32) (x4 : Int32) (rr : Int32) (k1 : ax_W shC (d + 1) mX7_worth Q 36 [some (ax_r 4), some (ax_i x1), some (ax_i ((if (¬ rr = 0) then x2 else (if (x4 ≤ x2) then x2 else (x4 - (1 : Int32)))) + (1 : Int32))), none, none, none, none] [] σ) : ax_W shC (d + 1) mX7_worth Q 94 [some (ax_r 4), some (ax_i x1), some (ax_i x2), none, some (ax_i x4), none, none] [ax_i rr] σ := by
  have K3 : ax_W shC (d + 1) mX7_worth Q 111 [some (ax_r 4), some (ax_i x1), some (ax_i x2), none, some (ax_i x4), none, none] [ax_i (if (¬ rr = 0) then x2 else (if (x4 ≤ x2) then x2 else (x4 - (1 : Int32))))] σ := by
    refine ax_istore_n (q := 112) (i := 2) (lv2 := [some (ax_r 4), some (ax_i x1), some (ax_i (if (¬ rr = 0) then x2 else (if (x4 ≤ x2) then x2 else (x4 - (1 : Int32))))), none, some (ax_i x4), none, none]) dX7_worth_111 rfl rfl (by decide) rfl rfl ?_
    refine ax_goto (tgt := 202) dX7_worth_112 (by decide) ?_
    refine ax_iincK (q := 205) (lv2 := [some (ax_r 4), some (ax_i x1), some (ax_i ((if (¬ rr = 0) then x2 else (if (x4 ≤ x2) then x2 else (x4 - (1 : Int32)))) + (1 : Int32))), none, some (ax_i x4), none, none]) dX7_worth_202 rfl rfl ki_1 (by decide) rfl rfl ?_
    refine ax_goto (tgt := 36) dX7_worth_205 (by decide) ?_
    refine ax_fg (lv2 := [some (ax_r 4), some (ax_i x1), some (ax_i ((if (¬ rr = 0) then x2 else (if (x4 ≤ x2) then x2 else (x4 - (1 : Int32)))) + (1 : Int32))), none, none, none, none]) ⟨rfl, rfl, rfl, trivial⟩ ?_
    exact k1
  refine ax_if_ne (tgt := 110) (q := 97) dX7_worth_94 (by decide) rfl (fun c1 => ?_) (fun c1 => ?_)
  · refine ax_iload_n (q := 111) (i := 2) dX7_worth_110 rfl rfl rfl ?_
    exact ax_cv (if_pos c1) K3
  · refine ax_iload (q := 99) dX7_worth_97 rfl rfl ?_
    refine ax_iload_n (q := 100) (i := 2) dX7_worth_99 rfl rfl rfl ?_
    refine ax_icmp_le (tgt := 110) (q := 103) dX7_worth_100 (by decide) rfl (fun c2 => ?_) (fun c2 => ?_)
    · refine ax_iload_n (q := 111) (i := 2) dX7_worth_110 rfl rfl rfl ?_
      exact ax_cv ((if_neg c1).trans (if_pos c2)) K3
    · refine ax_iload (q := 105) dX7_worth_103 rfl rfl ?_
      refine ax_iconst (q := 106) dX7_worth_105 rfl ki_1 ?_
      refine ax_isub (q := 107) dX7_worth_106 rfl ?_
      refine ax_goto (tgt := 111) dX7_worth_107 (by decide) ?_
      exact ax_cv ((if_neg c1).trans (if_neg c2)) K3
set_option maxRecDepth 20000 in
theorem s_X7_worth_177 {d : Nat} (hd : 0 ≤ d) {Q : Option ax_V → ax_S → Prop} (σ : ax_S) (x1 : Int32) (x2 : Int32) (k1 : ax_W shC (d + 1) mX7_worth Q 36 [some (ax_r 4), some (ax_i x1), some (ax_i (x2 + (1 : Int32))), none, none, none, none] [] σ) : ax_W shC (d + 1) mX7_worth Q 177 [some (ax_r 4), some (ax_i x1), some (ax_i x2), none, none, none, none] [] σ := by
  refine ax_goto (tgt := 202) dX7_worth_177 (by decide) ?_
  refine ax_iincK (q := 205) (lv2 := [some (ax_r 4), some (ax_i x1), some (ax_i (x2 + (1 : Int32))), none, none, none, none]) dX7_worth_202 rfl rfl ki_1 (by decide) rfl rfl ?_
  refine ax_goto (tgt := 36) dX7_worth_205 (by decide) ?_
  exact k1
set_option maxRecDepth 20000 in
theorem s_X7_worth_193 {d : Nat} (hd : 0 ≤ d) {Q : Option ax_V → ax_S → Prop} (σ : ax_S) (x1 : Int32) (x2 : Int32) (x5 : Int64) (rr : Int32) (y0 : Int32) (k1 : ax_Ct shC d mX7_join [ax_i y0, ax_l (Int32.toInt64 rr), ax_l x5] (fun r u => ∃ x : Int32, r = some (ax_i x) ∧ ax_W shC (d + 1) mX7_worth Q 199 [some (ax_r 4), some (ax_i x1), some (ax_i x2), none, none, none, none] (ax_i x :: [ax_r 4]) u) σ) : ax_W shC (d + 1) mX7_worth Q 193 [some (ax_r 4), some (ax_i x1), some (ax_i x2), none, none, some (ax_l x5), none] [ax_i rr, ax_i y0, ax_r 4] σ := by
  refine ax_i2l (q := 194) dX7_worth_193 rfl ?_
  refine ax_lload (q := 196) dX7_worth_194 rfl rfl ?_
  refine ax_fg (lv2 := [some (ax_r 4), some (ax_i x1), some (ax_i x2), none, none, none, none]) ⟨rfl, rfl, rfl, trivial⟩ ?_
  exact ax_callSci (q := 199) (As := [ax_i y0, ax_l (Int32.toInt64 rr), ax_l x5]) (st := [ax_r 4]) dX7_worth_196 rfl lk_X7_54 rfl rfl (Nat.le_of_ble_eq_true rfl) k1
set_option maxRecDepth 20000 in
theorem s_X7_worth_199 {d : Nat} (hd : 0 ≤ d) {Q : Option ax_V → ax_S → Prop} (σ : ax_S) (x1 : Int32) (x2 : Int32) (rr : Int32) (k1 : ax_Ct shC d mX7_push [ax_r 4, ax_i rr] (fun r u => r = none ∧ ax_W shC (d + 1) mX7_worth Q 202 [some (ax_r 4), some (ax_i x1), some (ax_i x2), none, none, none, none] [] u) σ) : ax_W shC (d + 1) mX7_worth Q 199 [some (ax_r 4), some (ax_i x1), some (ax_i x2), none, none, none, none] [ax_i rr, ax_r 4] σ := by
  exact ax_callVcv (q := 202) (As := [ax_i rr]) (st := []) dX7_worth_199 rfl lk_X7_50 shC_4 rfl rfl rfl rfl (Nat.le_of_ble_eq_true rfl) k1
set_option maxRecDepth 20000 in
theorem s_X7_worth_202 {d : Nat} (hd : 0 ≤ d) {Q : Option ax_V → ax_S → Prop} (σ : ax_S) (x1 : Int32) (x2 : Int32) (k1 : ax_W shC (d + 1) mX7_worth Q 36 [some (ax_r 4), some (ax_i x1), some (ax_i (x2 + (1 : Int32))), none, none, none, none] [] σ) : ax_W shC (d + 1) mX7_worth Q 202 [some (ax_r 4), some (ax_i x1), some (ax_i x2), none, none, none, none] [] σ := by
  refine ax_iincK (q := 205) (lv2 := [some (ax_r 4), some (ax_i x1), some (ax_i (x2 + (1 : Int32))), none, none, none, none]) dX7_worth_202 rfl rfl ki_1 (by decide) rfl rfl ?_
  refine ax_goto (tgt := 36) dX7_worth_205 (by decide) ?_
  exact k1
def v_J6_bitCount_0f7a4 (a0 : Int32) : Int32 := ((((((((a0 - ((((a0).toUInt32 >>> (((1 : Int32)).toUInt32 &&& Int32.toUInt32 31)).toInt32) &&& (1431655765 : Int32))) &&& (858993459 : Int32)) + (((((a0 - ((((a0).toUInt32 >>> (((1 : Int32)).toUInt32 &&& Int32.toUInt32 31)).toInt32) &&& (1431655765 : Int32)))).toUInt32 >>> (((2 : Int32)).toUInt32 &&& Int32.toUInt32 31)).toInt32) &&& (858993459 : Int32))) + ((((((a0 - ((((a0).toUInt32 >>> (((1 : Int32)).toUInt32 &&& Int32.toUInt32 31)).toInt32) &&& (1431655765 : Int32))) &&& (858993459 : Int32)) + (((((a0 - ((((a0).toUInt32 >>> (((1 : Int32)).toUInt32 &&& Int32.toUInt32 31)).toInt32) &&& (1431655765 : Int32)))).toUInt32 >>> (((2 : Int32)).toUInt32 &&& Int32.toUInt32 31)).toInt32) &&& (858993459 : Int32)))).toUInt32 >>> (((4 : Int32)).toUInt32 &&& Int32.toUInt32 31)).toInt32)) &&& (252645135 : Int32)) + ((((((((a0 - ((((a0).toUInt32 >>> (((1 : Int32)).toUInt32 &&& Int32.toUInt32 31)).toInt32) &&& (1431655765 : Int32))) &&& (858993459 : Int32)) + (((((a0 - ((((a0).toUInt32 >>> (((1 : Int32)).toUInt32 &&& Int32.toUInt32 31)).toInt32) &&& (1431655765 : Int32)))).toUInt32 >>> (((2 : Int32)).toUInt32 &&& Int32.toUInt32 31)).toInt32) &&& (858993459 : Int32))) + ((((((a0 - ((((a0).toUInt32 >>> (((1 : Int32)).toUInt32 &&& Int32.toUInt32 31)).toInt32) &&& (1431655765 : Int32))) &&& (858993459 : Int32)) + (((((a0 - ((((a0).toUInt32 >>> (((1 : Int32)).toUInt32 &&& Int32.toUInt32 31)).toInt32) &&& (1431655765 : Int32)))).toUInt32 >>> (((2 : Int32)).toUInt32 &&& Int32.toUInt32 31)).toInt32) &&& (858993459 : Int32)))).toUInt32 >>> (((4 : Int32)).toUInt32 &&& Int32.toUInt32 31)).toInt32)) &&& (252645135 : Int32))).toUInt32 >>> (((8 : Int32)).toUInt32 &&& Int32.toUInt32 31)).toInt32)) + (((((((((a0 - ((((a0).toUInt32 >>> (((1 : Int32)).toUInt32 &&& Int32.toUInt32 31)).toInt32) &&& (1431655765 : Int32))) &&& (858993459 : Int32)) + (((((a0 - ((((a0).toUInt32 >>> (((1 : Int32)).toUInt32 &&& Int32.toUInt32 31)).toInt32) &&& (1431655765 : Int32)))).toUInt32 >>> (((2 : Int32)).toUInt32 &&& Int32.toUInt32 31)).toInt32) &&& (858993459 : Int32))) + ((((((a0 - ((((a0).toUInt32 >>> (((1 : Int32)).toUInt32 &&& Int32.toUInt32 31)).toInt32) &&& (1431655765 : Int32))) &&& (858993459 : Int32)) + (((((a0 - ((((a0).toUInt32 >>> (((1 : Int32)).toUInt32 &&& Int32.toUInt32 31)).toInt32) &&& (1431655765 : Int32)))).toUInt32 >>> (((2 : Int32)).toUInt32 &&& Int32.toUInt32 31)).toInt32) &&& (858993459 : Int32)))).toUInt32 >>> (((4 : Int32)).toUInt32 &&& Int32.toUInt32 31)).toInt32)) &&& (252645135 : Int32)) + ((((((((a0 - ((((a0).toUInt32 >>> (((1 : Int32)).toUInt32 &&& Int32.toUInt32 31)).toInt32) &&& (1431655765 : Int32))) &&& (858993459 : Int32)) + (((((a0 - ((((a0).toUInt32 >>> (((1 : Int32)).toUInt32 &&& Int32.toUInt32 31)).toInt32) &&& (1431655765 : Int32)))).toUInt32 >>> (((2 : Int32)).toUInt32 &&& Int32.toUInt32 31)).toInt32) &&& (858993459 : Int32))) + ((((((a0 - ((((a0).toUInt32 >>> (((1 : Int32)).toUInt32 &&& Int32.toUInt32 31)).toInt32) &&& (1431655765 : Int32))) &&& (858993459 : Int32)) + (((((a0 - ((((a0).toUInt32 >>> (((1 : Int32)).toUInt32 &&& Int32.toUInt32 31)).toInt32) &&& (1431655765 : Int32)))).toUInt32 >>> (((2 : Int32)).toUInt32 &&& Int32.toUInt32 31)).toInt32) &&& (858993459 : Int32)))).toUInt32 >>> (((4 : Int32)).toUInt32 &&& Int32.toUInt32 31)).toInt32)) &&& (252645135 : Int32))).toUInt32 >>> (((8 : Int32)).toUInt32 &&& Int32.toUInt32 31)).toInt32))).toUInt32 >>> (((16 : Int32)).toUInt32 &&& Int32.toUInt32 31)).toInt32)) &&& (63 : Int32))
set_option maxRecDepth 20000 in
theorem f_J6_bitCount_0f7a4 {sh : List ax_H} (σ : ax_S) (a0 : Int32)  {d : Nat} (hd : 1 ≤ d) : ax_Ct sh d mJ6_bitCount_0f7a4 [ax_i a0] (fun r u => r = some (ax_i (v_J6_bitCount_0f7a4 a0)) ∧ u = σ) σ := by
  obtain ⟨d, rfl⟩ : ∃ e, d = e + 1 := ⟨d - 1, by omega⟩
  refine ax_Ct.of (lv := [some (ax_i a0)]) (by decide +kernel) (fun ad => Nat.le_of_ble_eq_true rfl) (fun ad => rfl) ?_
  refine ax_iload_n (q := 1) (i := 0) dJ6_bitCount_0f7a4_0 rfl rfl rfl ?_
  refine ax_iload_n (q := 2) (i := 0) dJ6_bitCount_0f7a4_1 rfl rfl rfl ?_
  refine ax_iconst (q := 3) dJ6_bitCount_0f7a4_2 rfl ki_1 ?_
  refine ax_iushr (q := 4) dJ6_bitCount_0f7a4_3 rfl ?_
  refine ax_ldcw (q := 7) dJ6_bitCount_0f7a4_4 rfl kc_J6_265 ?_
  refine ax_iand (q := 8) dJ6_bitCount_0f7a4_7 rfl ?_
  refine ax_isub (q := 9) dJ6_bitCount_0f7a4_8 rfl ?_
  refine ax_istore_n (q := 10) (i := 0) (lv2 := [some (ax_i (a0 - ((((a0).toUInt32 >>> (((1 : Int32)).toUInt32 &&& Int32.toUInt32 31)).toInt32) &&& (1431655765 : Int32))))]) dJ6_bitCount_0f7a4_9 rfl rfl (by decide) rfl rfl ?_
  refine ax_iload_n (q := 11) (i := 0) dJ6_bitCount_0f7a4_10 rfl rfl rfl ?_
  refine ax_ldcw (q := 14) dJ6_bitCount_0f7a4_11 rfl kc_J6_266 ?_
  refine ax_iand (q := 15) dJ6_bitCount_0f7a4_14 rfl ?_
  refine ax_iload_n (q := 16) (i := 0) dJ6_bitCount_0f7a4_15 rfl rfl rfl ?_
  refine ax_iconst (q := 17) dJ6_bitCount_0f7a4_16 rfl ki_2 ?_
  refine ax_iushr (q := 18) dJ6_bitCount_0f7a4_17 rfl ?_
  refine ax_ldcw (q := 21) dJ6_bitCount_0f7a4_18 rfl kc_J6_266 ?_
  refine ax_iand (q := 22) dJ6_bitCount_0f7a4_21 rfl ?_
  refine ax_iadd (q := 23) dJ6_bitCount_0f7a4_22 rfl ?_
  refine ax_istore_n (q := 24) (i := 0) (lv2 := [some (ax_i (((a0 - ((((a0).toUInt32 >>> (((1 : Int32)).toUInt32 &&& Int32.toUInt32 31)).toInt32) &&& (1431655765 : Int32))) &&& (858993459 : Int32)) + (((((a0 - ((((a0).toUInt32 >>> (((1 : Int32)).toUInt32 &&& Int32.toUInt32 31)).toInt32) &&& (1431655765 : Int32)))).toUInt32 >>> (((2 : Int32)).toUInt32 &&& Int32.toUInt32 31)).toInt32) &&& (858993459 : Int32))))]) dJ6_bitCount_0f7a4_23 rfl rfl (by decide) rfl rfl ?_
  refine ax_iload_n (q := 25) (i := 0) dJ6_bitCount_0f7a4_24 rfl rfl rfl ?_
  refine ax_iload_n (q := 26) (i := 0) dJ6_bitCount_0f7a4_25 rfl rfl rfl ?_
  refine ax_iconst (q := 27) dJ6_bitCount_0f7a4_26 rfl ki_4 ?_
  refine ax_iushr (q := 28) dJ6_bitCount_0f7a4_27 rfl ?_
  refine ax_iadd (q := 29) dJ6_bitCount_0f7a4_28 rfl ?_
  refine ax_ldcw (q := 32) dJ6_bitCount_0f7a4_29 rfl kc_J6_267 ?_
  refine ax_iand (q := 33) dJ6_bitCount_0f7a4_32 rfl ?_
  refine ax_istore_n (q := 34) (i := 0) (lv2 := [some (ax_i (((((a0 - ((((a0).toUInt32 >>> (((1 : Int32)).toUInt32 &&& Int32.toUInt32 31)).toInt32) &&& (1431655765 : Int32))) &&& (858993459 : Int32)) + (((((a0 - ((((a0).toUInt32 >>> (((1 : Int32)).toUInt32 &&& Int32.toUInt32 31)).toInt32) &&& (1431655765 : Int32)))).toUInt32 >>> (((2 : Int32)).toUInt32 &&& Int32.toUInt32 31)).toInt32) &&& (858993459 : Int32))) + ((((((a0 - ((((a0).toUInt32 >>> (((1 : Int32)).toUInt32 &&& Int32.toUInt32 31)).toInt32) &&& (1431655765 : Int32))) &&& (858993459 : Int32)) + (((((a0 - ((((a0).toUInt32 >>> (((1 : Int32)).toUInt32 &&& Int32.toUInt32 31)).toInt32) &&& (1431655765 : Int32)))).toUInt32 >>> (((2 : Int32)).toUInt32 &&& Int32.toUInt32 31)).toInt32) &&& (858993459 : Int32)))).toUInt32 >>> (((4 : Int32)).toUInt32 &&& Int32.toUInt32 31)).toInt32)) &&& (252645135 : Int32)))]) dJ6_bitCount_0f7a4_33 rfl rfl (by decide) rfl rfl ?_
  refine ax_iload_n (q := 35) (i := 0) dJ6_bitCount_0f7a4_34 rfl rfl rfl ?_
  refine ax_iload_n (q := 36) (i := 0) dJ6_bitCount_0f7a4_35 rfl rfl rfl ?_
  refine ax_bipush (q := 38) dJ6_bitCount_0f7a4_36 rfl kb_8 ?_
  refine ax_iushr (q := 39) dJ6_bitCount_0f7a4_38 rfl ?_
  refine ax_iadd (q := 40) dJ6_bitCount_0f7a4_39 rfl ?_
  refine ax_istore_n (q := 41) (i := 0) (lv2 := [some (ax_i ((((((a0 - ((((a0).toUInt32 >>> (((1 : Int32)).toUInt32 &&& Int32.toUInt32 31)).toInt32) &&& (1431655765 : Int32))) &&& (858993459 : Int32)) + (((((a0 - ((((a0).toUInt32 >>> (((1 : Int32)).toUInt32 &&& Int32.toUInt32 31)).toInt32) &&& (1431655765 : Int32)))).toUInt32 >>> (((2 : Int32)).toUInt32 &&& Int32.toUInt32 31)).toInt32) &&& (858993459 : Int32))) + ((((((a0 - ((((a0).toUInt32 >>> (((1 : Int32)).toUInt32 &&& Int32.toUInt32 31)).toInt32) &&& (1431655765 : Int32))) &&& (858993459 : Int32)) + (((((a0 - ((((a0).toUInt32 >>> (((1 : Int32)).toUInt32 &&& Int32.toUInt32 31)).toInt32) &&& (1431655765 : Int32)))).toUInt32 >>> (((2 : Int32)).toUInt32 &&& Int32.toUInt32 31)).toInt32) &&& (858993459 : Int32)))).toUInt32 >>> (((4 : Int32)).toUInt32 &&& Int32.toUInt32 31)).toInt32)) &&& (252645135 : Int32)) + ((((((((a0 - ((((a0).toUInt32 >>> (((1 : Int32)).toUInt32 &&& Int32.toUInt32 31)).toInt32) &&& (1431655765 : Int32))) &&& (858993459 : Int32)) + (((((a0 - ((((a0).toUInt32 >>> (((1 : Int32)).toUInt32 &&& Int32.toUInt32 31)).toInt32) &&& (1431655765 : Int32)))).toUInt32 >>> (((2 : Int32)).toUInt32 &&& Int32.toUInt32 31)).toInt32) &&& (858993459 : Int32))) + ((((((a0 - ((((a0).toUInt32 >>> (((1 : Int32)).toUInt32 &&& Int32.toUInt32 31)).toInt32) &&& (1431655765 : Int32))) &&& (858993459 : Int32)) + (((((a0 - ((((a0).toUInt32 >>> (((1 : Int32)).toUInt32 &&& Int32.toUInt32 31)).toInt32) &&& (1431655765 : Int32)))).toUInt32 >>> (((2 : Int32)).toUInt32 &&& Int32.toUInt32 31)).toInt32) &&& (858993459 : Int32)))).toUInt32 >>> (((4 : Int32)).toUInt32 &&& Int32.toUInt32 31)).toInt32)) &&& (252645135 : Int32))).toUInt32 >>> (((8 : Int32)).toUInt32 &&& Int32.toUInt32 31)).toInt32)))]) dJ6_bitCount_0f7a4_40 rfl rfl (by decide) rfl rfl ?_
  refine ax_iload_n (q := 42) (i := 0) dJ6_bitCount_0f7a4_41 rfl rfl rfl ?_
  refine ax_iload_n (q := 43) (i := 0) dJ6_bitCount_0f7a4_42 rfl rfl rfl ?_
  refine ax_bipush (q := 45) dJ6_bitCount_0f7a4_43 rfl kb_16 ?_
  refine ax_iushr (q := 46) dJ6_bitCount_0f7a4_45 rfl ?_
  refine ax_iadd (q := 47) dJ6_bitCount_0f7a4_46 rfl ?_
  refine ax_istore_n (q := 48) (i := 0) (lv2 := [some (ax_i (((((((a0 - ((((a0).toUInt32 >>> (((1 : Int32)).toUInt32 &&& Int32.toUInt32 31)).toInt32) &&& (1431655765 : Int32))) &&& (858993459 : Int32)) + (((((a0 - ((((a0).toUInt32 >>> (((1 : Int32)).toUInt32 &&& Int32.toUInt32 31)).toInt32) &&& (1431655765 : Int32)))).toUInt32 >>> (((2 : Int32)).toUInt32 &&& Int32.toUInt32 31)).toInt32) &&& (858993459 : Int32))) + ((((((a0 - ((((a0).toUInt32 >>> (((1 : Int32)).toUInt32 &&& Int32.toUInt32 31)).toInt32) &&& (1431655765 : Int32))) &&& (858993459 : Int32)) + (((((a0 - ((((a0).toUInt32 >>> (((1 : Int32)).toUInt32 &&& Int32.toUInt32 31)).toInt32) &&& (1431655765 : Int32)))).toUInt32 >>> (((2 : Int32)).toUInt32 &&& Int32.toUInt32 31)).toInt32) &&& (858993459 : Int32)))).toUInt32 >>> (((4 : Int32)).toUInt32 &&& Int32.toUInt32 31)).toInt32)) &&& (252645135 : Int32)) + ((((((((a0 - ((((a0).toUInt32 >>> (((1 : Int32)).toUInt32 &&& Int32.toUInt32 31)).toInt32) &&& (1431655765 : Int32))) &&& (858993459 : Int32)) + (((((a0 - ((((a0).toUInt32 >>> (((1 : Int32)).toUInt32 &&& Int32.toUInt32 31)).toInt32) &&& (1431655765 : Int32)))).toUInt32 >>> (((2 : Int32)).toUInt32 &&& Int32.toUInt32 31)).toInt32) &&& (858993459 : Int32))) + ((((((a0 - ((((a0).toUInt32 >>> (((1 : Int32)).toUInt32 &&& Int32.toUInt32 31)).toInt32) &&& (1431655765 : Int32))) &&& (858993459 : Int32)) + (((((a0 - ((((a0).toUInt32 >>> (((1 : Int32)).toUInt32 &&& Int32.toUInt32 31)).toInt32) &&& (1431655765 : Int32)))).toUInt32 >>> (((2 : Int32)).toUInt32 &&& Int32.toUInt32 31)).toInt32) &&& (858993459 : Int32)))).toUInt32 >>> (((4 : Int32)).toUInt32 &&& Int32.toUInt32 31)).toInt32)) &&& (252645135 : Int32))).toUInt32 >>> (((8 : Int32)).toUInt32 &&& Int32.toUInt32 31)).toInt32)) + (((((((((a0 - ((((a0).toUInt32 >>> (((1 : Int32)).toUInt32 &&& Int32.toUInt32 31)).toInt32) &&& (1431655765 : Int32))) &&& (858993459 : Int32)) + (((((a0 - ((((a0).toUInt32 >>> (((1 : Int32)).toUInt32 &&& Int32.toUInt32 31)).toInt32) &&& (1431655765 : Int32)))).toUInt32 >>> (((2 : Int32)).toUInt32 &&& Int32.toUInt32 31)).toInt32) &&& (858993459 : Int32))) + ((((((a0 - ((((a0).toUInt32 >>> (((1 : Int32)).toUInt32 &&& Int32.toUInt32 31)).toInt32) &&& (1431655765 : Int32))) &&& (858993459 : Int32)) + (((((a0 - ((((a0).toUInt32 >>> (((1 : Int32)).toUInt32 &&& Int32.toUInt32 31)).toInt32) &&& (1431655765 : Int32)))).toUInt32 >>> (((2 : Int32)).toUInt32 &&& Int32.toUInt32 31)).toInt32) &&& (858993459 : Int32)))).toUInt32 >>> (((4 : Int32)).toUInt32 &&& Int32.toUInt32 31)).toInt32)) &&& (252645135 : Int32)) + ((((((((a0 - ((((a0).toUInt32 >>> (((1 : Int32)).toUInt32 &&& Int32.toUInt32 31)).toInt32) &&& (1431655765 : Int32))) &&& (858993459 : Int32)) + (((((a0 - ((((a0).toUInt32 >>> (((1 : Int32)).toUInt32 &&& Int32.toUInt32 31)).toInt32) &&& (1431655765 : Int32)))).toUInt32 >>> (((2 : Int32)).toUInt32 &&& Int32.toUInt32 31)).toInt32) &&& (858993459 : Int32))) + ((((((a0 - ((((a0).toUInt32 >>> (((1 : Int32)).toUInt32 &&& Int32.toUInt32 31)).toInt32) &&& (1431655765 : Int32))) &&& (858993459 : Int32)) + (((((a0 - ((((a0).toUInt32 >>> (((1 : Int32)).toUInt32 &&& Int32.toUInt32 31)).toInt32) &&& (1431655765 : Int32)))).toUInt32 >>> (((2 : Int32)).toUInt32 &&& Int32.toUInt32 31)).toInt32) &&& (858993459 : Int32)))).toUInt32 >>> (((4 : Int32)).toUInt32 &&& Int32.toUInt32 31)).toInt32)) &&& (252645135 : Int32))).toUInt32 >>> (((8 : Int32)).toUInt32 &&& Int32.toUInt32 31)).toInt32))).toUInt32 >>> (((16 : Int32)).toUInt32 &&& Int32.toUInt32 31)).toInt32)))]) dJ6_bitCount_0f7a4_47 rfl rfl (by decide) rfl rfl ?_
  refine ax_iload_n (q := 49) (i := 0) dJ6_bitCount_0f7a4_48 rfl rfl rfl ?_
  refine ax_bipush (q := 51) dJ6_bitCount_0f7a4_49 rfl kb_63 ?_
  refine ax_iand (q := 52) dJ6_bitCount_0f7a4_51 rfl ?_
  exact ax_iret dJ6_bitCount_0f7a4_52 rfl rfl ⟨rfl, rfl⟩
set_option maxRecDepth 20000 in
theorem s_X8_send_0 {d : Nat} (hd : 0 ≤ d) {Q : Option ax_V → ax_S → Prop} (σ : ax_S) (a0 : Int32) (a1 : Int32) (a2 : Int32) (k1 : ((35 : Int32) ≤ (σ.1 6 6)) → Q none σ) (h2 : (¬ ((35 : Int32) ≤ (σ.1 6 6))) → vp_in (σ.1 6 6) 35) (k3 : (¬ ((35 : Int32) ≤ (σ.1 6 6))) → Q none (ax_ui (ax_ui (ax_ui (ax_ui σ 33 (Int32.toNatClampNeg (σ.1 6 6)) a0) 34 (Int32.toNatClampNeg (σ.1 6 6)) a1) 35 (Int32.toNatClampNeg (σ.1 6 6)) a2) 6 6 ((σ.1 6 6) + (1 : Int32)))) : ax_W shC (d + 1) mX8_send Q 0 [some (ax_r 6), some (ax_i a0), some (ax_i a1), some (ax_i a2)] [] σ := by
  refine ax_aload_n (q := 1) (i := 0) dX8_send_0 rfl rfl rfl ?_
  refine ax_get (q := 4) (k := 6) (j := 6) (v := ax_i (σ.1 6 6)) dX8_send_1 rfl shC_6 rfl rfl rfl (by decide) fl_X8_38 ?_
  refine ax_bipush (q := 6) dX8_send_4 rfl kb_35 ?_
  refine ax_icmp_ge (tgt := 49) (q := 9) dX8_send_6 (by decide) rfl (fun c1 => ?_) (fun c1 => ?_)
  · exact ax_vret dX8_send_49 rfl (k1 c1)
  · refine ax_aload_n (q := 10) (i := 0) dX8_send_9 rfl rfl rfl ?_
    refine ax_get (q := 13) (k := 6) (j := 3) (v := ax_r 33) dX8_send_10 rfl shC_6 rfl rfl rfl (by decide) fl_X8_15 ?_
    refine ax_aload_n (q := 14) (i := 0) dX8_send_13 rfl rfl rfl ?_
    refine ax_get (q := 17) (k := 6) (j := 6) (v := ax_i (σ.1 6 6)) dX8_send_14 rfl shC_6 rfl rfl rfl (by decide) fl_X8_38 ?_
    refine ax_iload_n (q := 18) (i := 1) dX8_send_17 rfl rfl rfl ?_
    refine ax_iast (q := 19) (a := (Int32.toNatClampNeg (σ.1 6 6))) dX8_send_18 rfl shC_33 (h2 c1) rfl ?_
    refine ax_aload_n (q := 20) (i := 0) dX8_send_19 rfl rfl rfl ?_
    refine ax_get (q := 23) (k := 6) (j := 4) (v := ax_r 34) dX8_send_20 rfl shC_6 rfl rfl rfl (by decide) fl_X8_18 ?_
    refine ax_aload_n (q := 24) (i := 0) dX8_send_23 rfl rfl rfl ?_
    refine ax_get (q := 27) (k := 6) (j := 6) (v := ax_i (σ.1 6 6)) dX8_send_24 rfl shC_6 rfl rfl rfl (by decide) fl_X8_38 ?_
    refine ax_iload_n (q := 28) (i := 2) dX8_send_27 rfl rfl rfl ?_
    refine ax_iast (q := 29) (a := (Int32.toNatClampNeg (σ.1 6 6))) dX8_send_28 rfl shC_34 (h2 c1) rfl ?_
    refine ax_aload_n (q := 30) (i := 0) dX8_send_29 rfl rfl rfl ?_
    refine ax_get (q := 33) (k := 6) (j := 5) (v := ax_r 35) dX8_send_30 rfl shC_6 rfl rfl rfl (by decide) fl_X8_21 ?_
    refine ax_aload_n (q := 34) (i := 0) dX8_send_33 rfl rfl rfl ?_
    refine ax_get (q := 37) (k := 6) (j := 6) (v := ax_i (σ.1 6 6)) dX8_send_34 rfl shC_6 rfl rfl rfl (by decide) fl_X8_38 ?_
    refine ax_iload_n (q := 38) (i := 3) dX8_send_37 rfl rfl rfl ?_
    refine ax_iast (q := 39) (a := (Int32.toNatClampNeg (σ.1 6 6))) dX8_send_38 rfl shC_35 (h2 c1) rfl ?_
    refine ax_aload_n (q := 40) (i := 0) dX8_send_39 rfl rfl rfl ?_
    refine ax_dupr (q := 41) dX8_send_40 rfl ?_
    refine ax_get (q := 44) (k := 6) (j := 6) (v := ax_i (σ.1 6 6)) dX8_send_41 rfl shC_6 rfl rfl rfl (by decide) fl_X8_38 ?_
    refine ax_iconst (q := 45) dX8_send_44 rfl ki_1 ?_
    refine ax_iadd (q := 46) dX8_send_45 rfl ?_
    refine ax_puti (q := 49) (k := 6) (j := 6) dX8_send_46 rfl shC_6 rfl rfl (by decide) fl_X8_38 rfl rfl rfl rfl ?_
    exact ax_vret dX8_send_49 rfl (k3 c1)
set_option maxRecDepth 20000 in
theorem s_X8_pass_0 {d : Nat} (hd : 0 ≤ d) {Q : Option ax_V → ax_S → Prop} (σ : ax_S) (a0 : Int32) (a1 : Int32) (a2 : Int32) (k1 : ax_W shC (d + 1) mX8_pass Q 3 [some (ax_r 6), some (ax_i a0), some (ax_i a1), some (ax_i a2), some (ax_i (0 : Int32)), none] [] σ) : ax_W shC (d + 1) mX8_pass Q 0 [some (ax_r 6), some (ax_i a0), some (ax_i a1), some (ax_i a2), none, none] [] σ := by
  refine ax_iconst (q := 1) dX8_pass_0 rfl ki_0 ?_
  refine ax_istore (q := 3) (lv2 := [some (ax_r 6), some (ax_i a0), some (ax_i a1), some (ax_i a2), some (ax_i (0 : Int32)), none]) dX8_pass_1 rfl (by decide) rfl rfl ?_
  exact k1
set_option maxRecDepth 20000 in
theorem s_X8_pass_3 {d : Nat} (hd : 1 ≤ d) {Q : Option ax_V → ax_S → Prop} (σ : ax_S) (x1 : Int32) (x2 : Int32) (x3 : Int32) (x4 : Int32) (k1 : ((σ.1 5 10) < x4) → Q none σ) (k2 : (¬ ((σ.1 5 10) < x4)) → ((17 : Int32) ≤ x4) → Q none σ) (h3 : (¬ ((σ.1 5 10) < x4)) → (¬ ((17 : Int32) ≤ x4)) → (¬ ((x2 >>> (x4 &&& 31)) &&& (1 : Int32)) = 0) → vp_in x4 17) (k4 : (¬ ((σ.1 5 10) < x4)) → (¬ ((17 : Int32) ≤ x4)) → (¬ ((x2 >>> (x4 &&& 31)) &&& (1 : Int32)) = 0) → (x3 ≤ (if (σ.1 30 (Int32.toNatClampNeg x4)) < x3 then (σ.1 30 (Int32.toNatClampNeg x4)) else x3)) → ax_W shC (d + 1) mX8_pass Q 3 [some (ax_r 6), some (ax_i x1), some (ax_i x2), some (ax_i x3), some (ax_i (x4 + (1 : Int32))), none] [] (ax_ui σ 6 8 ((σ.1 6 8) + (if (σ.1 30 (Int32.toNatClampNeg x4)) < x3 then (σ.1 30 (Int32.toNatClampNeg x4)) else x3)))) (h5 : (¬ ((σ.1 5 10) < x4)) → (¬ ((17 : Int32) ≤ x4)) → (¬ ((x2 >>> (x4 &&& 31)) &&& (1 : Int32)) = 0) → (¬ (x3 ≤ (if (σ.1 30 (Int32.toNatClampNeg x4)) < x3 then (σ.1 30 (Int32.toNatClampNeg x4)) else x3))) → vp_in x4 17) (h6 : (¬ ((σ.1 5 10) < x4)) → (¬ ((17 : Int32) ≤ x4)) → (¬ ((x2 >>> (x4 &&& 31)) &&& (1 : Int32)) = 0) → (¬ (x3 ≤ (if (σ.1 30 (Int32.toNatClampNeg x4)) < x3 then (σ.1 30 (Int32.toNatClampNeg x4)) else x3))) → (¬ (σ.1 28 (Int32.toNatClampNeg x4)) = x1) → vp_in x4 17) (h7 : (¬ ((σ.1 5 10) < x4)) → (¬ ((17 : Int32) ≤ x4)) → (¬ ((x2 >>> (x4 &&& 31)) &&& (1 : Int32)) = 0) → (¬ (x3 ≤ (if (σ.1 30 (Int32.toNatClampNeg x4)) < x3 then (σ.1 30 (Int32.toNatClampNeg x4)) else x3))) → (¬ (¬ (σ.1 28 (Int32.toNatClampNeg x4)) = x1)) → vp_in x4 17) (k8 : (¬ ((σ.1 5 10) < x4)) → (¬ ((17 : Int32) ≤ x4)) → (¬ ((x2 >>> (x4 &&& 31)) &&& (1 : Int32)) = 0) → (¬ (x3 ≤ (if (σ.1 30 (Int32.toNatClampNeg x4)) < x3 then (σ.1 30 (Int32.toNatClampNeg x4)) else x3))) → ax_Ct shC d mX8_send [ax_r 6, ax_i (if (¬ (σ.1 28 (Int32.toNatClampNeg x4)) = x1) then (σ.1 28 (Int32.toNatClampNeg x4)) else (σ.1 29 (Int32.toNatClampNeg x4))), ax_i x4, ax_i (x3 - (if (σ.1 30 (Int32.toNatClampNeg x4)) < x3 then (σ.1 30 (Int32.toNatClampNeg x4)) else x3))] (fun r u => r = none ∧ ax_W shC (d + 1) mX8_pass Q 114 [some (ax_r 6), some (ax_i x1), some (ax_i x2), some (ax_i x3), some (ax_i x4), none] [] u) (ax_ui σ 6 8 ((σ.1 6 8) + (if (σ.1 30 (Int32.toNatClampNeg x4)) < x3 then (σ.1 30 (Int32.toNatClampNeg x4)) else x3)))) (k9 : (¬ ((σ.1 5 10) < x4)) → (¬ ((17 : Int32) ≤ x4)) → (¬ (¬ ((x2 >>> (x4 &&& 31)) &&& (1 : Int32)) = 0)) → ax_W shC (d + 1) mX8_pass Q 3 [some (ax_r 6), some (ax_i x1), some (ax_i x2), some (ax_i x3), some (ax_i (x4 + (1 : Int32))), none] [] σ) : ax_W shC (d + 1) mX8_pass Q 3 [some (ax_r 6), some (ax_i x1), some (ax_i x2), some (ax_i x3), some (ax_i x4), none] [] σ := by
  refine ax_iload (q := 5) dX8_pass_3 rfl rfl ?_
  refine ax_aload_n (q := 6) (i := 0) dX8_pass_5 rfl rfl rfl ?_
  refine ax_get (q := 9) (k := 6) (j := 0) (v := ax_r 5) dX8_pass_6 rfl shC_6 rfl rfl rfl (by decide) fl_X8_24 ?_
  refine ax_get (q := 12) (k := 5) (j := 10) (v := ax_i (σ.1 5 10)) dX8_pass_9 rfl shC_5 rfl rfl rfl (by decide) fl_X8_110 ?_
  refine ax_icmp_gt (tgt := 120) (q := 15) dX8_pass_12 (by decide) rfl (fun c1 => ?_) (fun c1 => ?_)
  · exact ax_vret dX8_pass_120 rfl (k1 c1)
  · refine ax_iload (q := 17) dX8_pass_15 rfl rfl ?_
    refine ax_bipush (q := 19) dX8_pass_17 rfl kb_17 ?_
    refine ax_icmp_ge (tgt := 120) (q := 22) dX8_pass_19 (by decide) rfl (fun c2 => ?_) (fun c2 => ?_)
    · exact ax_vret dX8_pass_120 rfl (k2 c1 c2)
    · refine ax_iload_n (q := 23) (i := 2) dX8_pass_22 rfl rfl rfl ?_
      refine ax_iload (q := 25) dX8_pass_23 rfl rfl ?_
      refine ax_callNfi (q := 28) (As := [ax_i x2, ax_i x4]) (st := []) (x := ((x2 >>> (x4 &&& 31)) &&& (1 : Int32))) (σ2 := σ) dX8_pass_25 rfl lk_X8_60 rfl rfl (Nat.le_of_ble_eq_true rfl) (f_X11_bitOf (sh := shC) σ x2 x4  (d := d) (by omega)) ?_
      refine ax_if_ne (tgt := 34) (q := 31) dX8_pass_28 (by decide) rfl (fun c3 => ?_) (fun c3 => ?_)
      · refine ax_iload_n (q := 35) (i := 3) dX8_pass_34 rfl rfl rfl ?_
        refine ax_aload_n (q := 36) (i := 0) dX8_pass_35 rfl rfl rfl ?_
        refine ax_get (q := 39) (k := 6) (j := 0) (v := ax_r 5) dX8_pass_36 rfl shC_6 rfl rfl rfl (by decide) fl_X8_24 ?_
        refine ax_get (q := 42) (k := 5) (j := 7) (v := ax_r 30) dX8_pass_39 rfl shC_5 rfl rfl rfl (by decide) fl_X8_113 ?_
        refine ax_iload (q := 44) dX8_pass_42 rfl rfl ?_
        refine ax_iald (q := 45) (a := (Int32.toNatClampNeg x4)) (v := (σ.1 30 (Int32.toNatClampNeg x4))) dX8_pass_44 rfl shC_30 (h3 c1 c2 c3) rfl rfl ?_
        refine ax_mmin (q := 48) dX8_pass_45 rfl mk_X8_99 (Nat.le_of_ble_eq_true rfl) ?_
        refine ax_istore (q := 50) (lv2 := [some (ax_r 6), some (ax_i x1), some (ax_i x2), some (ax_i x3), some (ax_i x4), some (ax_i (if (σ.1 30 (Int32.toNatClampNeg x4)) < x3 then (σ.1 30 (Int32.toNatClampNeg x4)) else x3))]) dX8_pass_48 rfl (by decide) rfl rfl ?_
        refine ax_aload_n (q := 51) (i := 0) dX8_pass_50 rfl rfl rfl ?_
        refine ax_dupr (q := 52) dX8_pass_51 rfl ?_
        refine ax_get (q := 55) (k := 6) (j := 8) (v := ax_i (σ.1 6 8)) dX8_pass_52 rfl shC_6 rfl rfl rfl (by decide) fl_X8_45 ?_
        refine ax_iload (q := 57) dX8_pass_55 rfl rfl ?_
        refine ax_iadd (q := 58) dX8_pass_57 rfl ?_
        refine ax_puti (q := 61) (k := 6) (j := 8) dX8_pass_58 rfl shC_6 rfl rfl (by decide) fl_X8_45 rfl rfl rfl rfl ?_
        refine ax_iload_n (q := 62) (i := 3) dX8_pass_61 rfl rfl rfl ?_
        refine ax_iload (q := 64) dX8_pass_62 rfl rfl ?_
        refine ax_icmp_le (tgt := 114) (q := 67) dX8_pass_64 (by decide) rfl (fun c4 => ?_) (fun c4 => ?_)
        · refine ax_iincK (q := 117) (lv2 := [some (ax_r 6), some (ax_i x1), some (ax_i x2), some (ax_i x3), some (ax_i (x4 + (1 : Int32))), some (ax_i (if (σ.1 30 (Int32.toNatClampNeg x4)) < x3 then (σ.1 30 (Int32.toNatClampNeg x4)) else x3))]) dX8_pass_114 rfl rfl ki_1 (by decide) rfl rfl ?_
          refine ax_goto (tgt := 3) dX8_pass_117 (by decide) ?_
          refine ax_fg (lv2 := [some (ax_r 6), some (ax_i x1), some (ax_i x2), some (ax_i x3), some (ax_i (x4 + (1 : Int32))), none]) ⟨rfl, rfl, rfl, rfl, rfl, trivial⟩ ?_
          exact (k4 c1 c2 c3 c4)
        · refine ax_aload_n (q := 68) (i := 0) dX8_pass_67 rfl rfl rfl ?_
          refine ax_aload_n (q := 69) (i := 0) dX8_pass_68 rfl rfl rfl ?_
          refine ax_get (q := 72) (k := 6) (j := 0) (v := ax_r 5) dX8_pass_69 rfl shC_6 rfl rfl rfl (by decide) fl_X8_24 ?_
          refine ax_get (q := 75) (k := 5) (j := 5) (v := ax_r 28) dX8_pass_72 rfl shC_5 rfl rfl rfl (by decide) fl_X8_116 ?_
          refine ax_iload (q := 77) dX8_pass_75 rfl rfl ?_
          refine ax_iald (q := 78) (a := (Int32.toNatClampNeg x4)) (v := (σ.1 28 (Int32.toNatClampNeg x4))) dX8_pass_77 rfl shC_28 (h5 c1 c2 c3 c4) rfl rfl ?_
          refine ax_iload_n (q := 79) (i := 1) dX8_pass_78 rfl rfl rfl ?_
          have K6 : ax_W shC (d + 1) mX8_pass Q 105 [some (ax_r 6), some (ax_i x1), some (ax_i x2), some (ax_i x3), some (ax_i x4), some (ax_i (if (σ.1 30 (Int32.toNatClampNeg x4)) < x3 then (σ.1 30 (Int32.toNatClampNeg x4)) else x3))] [ax_i (if (¬ (σ.1 28 (Int32.toNatClampNeg x4)) = x1) then (σ.1 28 (Int32.toNatClampNeg x4)) else (σ.1 29 (Int32.toNatClampNeg x4))), ax_r 6] (ax_ui σ 6 8 ((σ.1 6 8) + (if (σ.1 30 (Int32.toNatClampNeg x4)) < x3 then (σ.1 30 (Int32.toNatClampNeg x4)) else x3))) := by
            refine ax_iload (q := 107) dX8_pass_105 rfl rfl ?_
            refine ax_iload_n (q := 108) (i := 3) dX8_pass_107 rfl rfl rfl ?_
            refine ax_iload (q := 110) dX8_pass_108 rfl rfl ?_
            refine ax_isub (q := 111) dX8_pass_110 rfl ?_
            refine ax_fg (lv2 := [some (ax_r 6), some (ax_i x1), some (ax_i x2), some (ax_i x3), some (ax_i x4), none]) ⟨rfl, rfl, rfl, rfl, rfl, trivial⟩ ?_
            exact ax_callVcv (q := 114) (As := [ax_i (if (¬ (σ.1 28 (Int32.toNatClampNeg x4)) = x1) then (σ.1 28 (Int32.toNatClampNeg x4)) else (σ.1 29 (Int32.toNatClampNeg x4))), ax_i x4, ax_i (x3 - (if (σ.1 30 (Int32.toNatClampNeg x4)) < x3 then (σ.1 30 (Int32.toNatClampNeg x4)) else x3))]) (st := []) dX8_pass_111 rfl lk_X8_48 shC_6 rfl rfl rfl rfl (Nat.le_of_ble_eq_true rfl) (k8 c1 c2 c3 c4)
          refine ax_icmp_ne (tgt := 95) (q := 82) dX8_pass_79 (by decide) rfl (fun c5 => ?_) (fun c5 => ?_)
          · refine ax_aload_n (q := 96) (i := 0) dX8_pass_95 rfl rfl rfl ?_
            refine ax_get (q := 99) (k := 6) (j := 0) (v := ax_r 5) dX8_pass_96 rfl shC_6 rfl rfl rfl (by decide) fl_X8_24 ?_
            refine ax_get (q := 102) (k := 5) (j := 5) (v := ax_r 28) dX8_pass_99 rfl shC_5 rfl rfl rfl (by decide) fl_X8_116 ?_
            refine ax_iload (q := 104) dX8_pass_102 rfl rfl ?_
            refine ax_iald (q := 105) (a := (Int32.toNatClampNeg x4)) (v := (σ.1 28 (Int32.toNatClampNeg x4))) dX8_pass_104 rfl shC_28 (h6 c1 c2 c3 c4 c5) rfl rfl ?_
            exact ax_cv (if_pos c5) K6
          · refine ax_aload_n (q := 83) (i := 0) dX8_pass_82 rfl rfl rfl ?_
            refine ax_get (q := 86) (k := 6) (j := 0) (v := ax_r 5) dX8_pass_83 rfl shC_6 rfl rfl rfl (by decide) fl_X8_24 ?_
            refine ax_get (q := 89) (k := 5) (j := 6) (v := ax_r 29) dX8_pass_86 rfl shC_5 rfl rfl rfl (by decide) fl_X8_119 ?_
            refine ax_iload (q := 91) dX8_pass_89 rfl rfl ?_
            refine ax_iald (q := 92) (a := (Int32.toNatClampNeg x4)) (v := (σ.1 29 (Int32.toNatClampNeg x4))) dX8_pass_91 rfl shC_29 (h7 c1 c2 c3 c4 c5) rfl rfl ?_
            refine ax_goto (tgt := 105) dX8_pass_92 (by decide) ?_
            exact ax_cv (if_neg c5) K6
      · refine ax_goto (tgt := 114) dX8_pass_31 (by decide) ?_
        refine ax_iincK (q := 117) (lv2 := [some (ax_r 6), some (ax_i x1), some (ax_i x2), some (ax_i x3), some (ax_i (x4 + (1 : Int32))), none]) dX8_pass_114 rfl rfl ki_1 (by decide) rfl rfl ?_
        refine ax_goto (tgt := 3) dX8_pass_117 (by decide) ?_
        exact (k9 c1 c2 c3)
set_option maxRecDepth 20000 in
theorem s_X8_pass_114 {d : Nat} (hd : 0 ≤ d) {Q : Option ax_V → ax_S → Prop} (σ : ax_S) (x1 : Int32) (x2 : Int32) (x3 : Int32) (x4 : Int32) (k1 : ax_W shC (d + 1) mX8_pass Q 3 [some (ax_r 6), some (ax_i x1), some (ax_i x2), some (ax_i x3), some (ax_i (x4 + (1 : Int32))), none] [] σ) : ax_W shC (d + 1) mX8_pass Q 114 [some (ax_r 6), some (ax_i x1), some (ax_i x2), some (ax_i x3), some (ax_i x4), none] [] σ := by
  refine ax_iincK (q := 117) (lv2 := [some (ax_r 6), some (ax_i x1), some (ax_i x2), some (ax_i x3), some (ax_i (x4 + (1 : Int32))), none]) dX8_pass_114 rfl rfl ki_1 (by decide) rfl rfl ?_
  refine ax_goto (tgt := 3) dX8_pass_117 (by decide) ?_
  exact k1
set_option maxRecDepth 20000 in
theorem s_X8_arrive_0 {d : Nat} (hd : 1 ≤ d) {Q : Option ax_V → ax_S → Prop} (σ : ax_S) (a0 : Int32) (a1 : Int32) (a2 : Int32) (a3 : Int32) (h1 : (¬ (((σ.1 6 7) >>> (a1 &&& 31)) &&& (1 : Int32)) = (1 : Int32)) → vp_in a1 8) (k2 : (¬ (((σ.1 6 7) >>> (a1 &&& 31)) &&& (1 : Int32)) = (1 : Int32)) → (a2 = (-1 : Int32)) → ax_W shC (d + 1) mX8_arrive Q 62 [some (ax_r 6), none, some (ax_i a1), none, some (ax_i a3), some (ax_i (a0 &&& (σ.1 31 (Int32.toNatClampNeg a1)))), none, none, none] [] (ax_ui σ 6 7 ((σ.1 6 7) ||| ((1 : Int32) <<< (a1 &&& 31))))) (k3 : (¬ (((σ.1 6 7) >>> (a1 &&& 31)) &&& (1 : Int32)) = (1 : Int32)) → (¬ (a2 = (-1 : Int32))) → ax_W shC (d + 1) mX8_arrive Q 62 [some (ax_r 6), none, some (ax_i a1), none, some (ax_i a3), some (ax_i ((a0 &&& (σ.1 31 (Int32.toNatClampNeg a1))) &&& (((1 : Int32) <<< (a2 &&& 31)) ^^^ (-1 : Int32)))), none, none, none] [] (ax_ui σ 6 7 ((σ.1 6 7) ||| ((1 : Int32) <<< (a1 &&& 31))))) (h4 : (¬ (¬ (((σ.1 6 7) >>> (a1 &&& 31)) &&& (1 : Int32)) = (1 : Int32))) → vp_in a1 8) (k5 : (¬ (¬ (((σ.1 6 7) >>> (a1 &&& 31)) &&& (1 : Int32)) = (1 : Int32))) → Q none (ax_ui σ 32 (Int32.toNatClampNeg a1) ((σ.1 32 (Int32.toNatClampNeg a1)) + a3))) : ax_W shC (d + 1) mX8_arrive Q 0 [some (ax_r 6), some (ax_i a0), some (ax_i a1), some (ax_i a2), some (ax_i a3), none, none, none, none] [] σ := by
  refine ax_aload_n (q := 1) (i := 0) dX8_arrive_0 rfl rfl rfl ?_
  refine ax_get (q := 4) (k := 6) (j := 7) (v := ax_i (σ.1 6 7)) dX8_arrive_1 rfl shC_6 rfl rfl rfl (by decide) fl_X8_42 ?_
  refine ax_iload_n (q := 5) (i := 2) dX8_arrive_4 rfl rfl rfl ?_
  refine ax_callNfi (q := 8) (As := [ax_i (σ.1 6 7), ax_i a1]) (st := []) (x := (((σ.1 6 7) >>> (a1 &&& 31)) &&& (1 : Int32))) (σ2 := σ) dX8_arrive_5 rfl lk_X8_60 rfl rfl (Nat.le_of_ble_eq_true rfl) (f_X11_bitOf (sh := shC) σ (σ.1 6 7) a1  (d := d) (by omega)) ?_
  refine ax_iconst (q := 9) dX8_arrive_8 rfl ki_1 ?_
  refine ax_icmp_ne (tgt := 24) (q := 12) dX8_arrive_9 (by decide) rfl (fun c1 => ?_) (fun c1 => ?_)
  · refine ax_aload_n (q := 25) (i := 0) dX8_arrive_24 rfl rfl rfl ?_
    refine ax_dupr (q := 26) dX8_arrive_25 rfl ?_
    refine ax_get (q := 29) (k := 6) (j := 7) (v := ax_i (σ.1 6 7)) dX8_arrive_26 rfl shC_6 rfl rfl rfl (by decide) fl_X8_42 ?_
    refine ax_iconst (q := 30) dX8_arrive_29 rfl ki_1 ?_
    refine ax_iload_n (q := 31) (i := 2) dX8_arrive_30 rfl rfl rfl ?_
    refine ax_ishl (q := 32) dX8_arrive_31 rfl ?_
    refine ax_ior (q := 33) dX8_arrive_32 rfl ?_
    refine ax_puti (q := 36) (k := 6) (j := 7) dX8_arrive_33 rfl shC_6 rfl rfl (by decide) fl_X8_42 rfl rfl rfl rfl ?_
    refine ax_aload_n (q := 37) (i := 0) dX8_arrive_36 rfl rfl rfl ?_
    refine ax_get (q := 40) (k := 6) (j := 0) (v := ax_r 5) dX8_arrive_37 rfl shC_6 rfl rfl rfl (by decide) fl_X8_24 ?_
    refine ax_iload_n (q := 41) (i := 1) dX8_arrive_40 rfl rfl rfl ?_
    refine ax_iload_n (q := 42) (i := 2) dX8_arrive_41 rfl rfl rfl ?_
    refine ax_callVfi (q := 45) (As := [ax_i a0, ax_i a1]) (st := []) (x := (a0 &&& (σ.1 31 (Int32.toNatClampNeg a1)))) (σ2 := (ax_ui σ 6 7 ((σ.1 6 7) ||| ((1 : Int32) <<< (a1 &&& 31))))) dX8_arrive_42 rfl lk_X8_64 shC_5 rfl rfl rfl rfl (Nat.le_of_ble_eq_true rfl) (f_X0_touching (ax_ui σ 6 7 ((σ.1 6 7) ||| ((1 : Int32) <<< (a1 &&& 31)))) a0 a1 (h1 c1) (d := d) (by omega)) ?_
    refine ax_istore (q := 47) (lv2 := [some (ax_r 6), some (ax_i a0), some (ax_i a1), some (ax_i a2), some (ax_i a3), some (ax_i (a0 &&& (σ.1 31 (Int32.toNatClampNeg a1)))), none, none, none]) dX8_arrive_45 rfl (by decide) rfl rfl ?_
    refine ax_iload_n (q := 48) (i := 3) dX8_arrive_47 rfl rfl rfl ?_
    refine ax_iconst (q := 49) dX8_arrive_48 rfl ki_m1 ?_
    refine ax_icmp_eq (tgt := 62) (q := 52) dX8_arrive_49 (by decide) rfl (fun c2 => ?_) (fun c2 => ?_)
    · refine ax_fg (lv2 := [some (ax_r 6), none, some (ax_i a1), none, some (ax_i a3), some (ax_i (a0 &&& (σ.1 31 (Int32.toNatClampNeg a1)))), none, none, none]) ⟨rfl, rfl, rfl, rfl, trivial⟩ ?_
      exact (k2 c1 c2)
    · refine ax_iload (q := 54) dX8_arrive_52 rfl rfl ?_
      refine ax_iconst (q := 55) dX8_arrive_54 rfl ki_1 ?_
      refine ax_iload_n (q := 56) (i := 3) dX8_arrive_55 rfl rfl rfl ?_
      refine ax_ishl (q := 57) dX8_arrive_56 rfl ?_
      refine ax_iconst (q := 58) dX8_arrive_57 rfl ki_m1 ?_
      refine ax_ixor (q := 59) dX8_arrive_58 rfl ?_
      refine ax_iand (q := 60) dX8_arrive_59 rfl ?_
      refine ax_istore (q := 62) (lv2 := [some (ax_r 6), some (ax_i a0), some (ax_i a1), some (ax_i a2), some (ax_i a3), some (ax_i ((a0 &&& (σ.1 31 (Int32.toNatClampNeg a1))) &&& (((1 : Int32) <<< (a2 &&& 31)) ^^^ (-1 : Int32)))), none, none, none]) dX8_arrive_60 rfl (by decide) rfl rfl ?_
      refine ax_fg (lv2 := [some (ax_r 6), none, some (ax_i a1), none, some (ax_i a3), some (ax_i ((a0 &&& (σ.1 31 (Int32.toNatClampNeg a1))) &&& (((1 : Int32) <<< (a2 &&& 31)) ^^^ (-1 : Int32)))), none, none, none]) ⟨rfl, rfl, rfl, rfl, trivial⟩ ?_
      exact (k3 c1 c2)
  · refine ax_aload_n (q := 13) (i := 0) dX8_arrive_12 rfl rfl rfl ?_
    refine ax_get (q := 16) (k := 6) (j := 2) (v := ax_r 32) dX8_arrive_13 rfl shC_6 rfl rfl rfl (by decide) fl_X8_9 ?_
    refine ax_iload_n (q := 17) (i := 2) dX8_arrive_16 rfl rfl rfl ?_
    refine ax_dup2_11 (q := 18) dX8_arrive_17 rfl ?_
    refine ax_iald (q := 19) (a := (Int32.toNatClampNeg a1)) (v := (σ.1 32 (Int32.toNatClampNeg a1))) dX8_arrive_18 rfl shC_32 (h4 c1) rfl rfl ?_
    refine ax_iload (q := 21) dX8_arrive_19 rfl rfl ?_
    refine ax_iadd (q := 22) dX8_arrive_21 rfl ?_
    refine ax_iast (q := 23) (a := (Int32.toNatClampNeg a1)) dX8_arrive_22 rfl shC_32 (h4 c1) rfl ?_
    exact ax_vret dX8_arrive_23 rfl (k5 c1)
set_option maxRecDepth 20000 in
theorem s_X8_arrive_62 {d : Nat} (hd : 1 ≤ d) {Q : Option ax_V → ax_S → Prop} (σ : ax_S) (x2 : Int32) (x4 : Int32) (x5 : Int32) (k1 : ax_W shC (d + 1) mX8_arrive Q 69 [some (ax_r 6), none, some (ax_i x2), none, some (ax_i x4), some (ax_i x5), some (ax_i (v_J6_bitCount_0f7a4 x5)), none, none] [] σ) : ax_W shC (d + 1) mX8_arrive Q 62 [some (ax_r 6), none, some (ax_i x2), none, some (ax_i x4), some (ax_i x5), none, none, none] [] σ := by
  refine ax_iload (q := 64) dX8_arrive_62 rfl rfl ?_
  refine ax_callSfi (q := 67) (As := [ax_i x5]) (st := []) (x := (v_J6_bitCount_0f7a4 x5)) (σ2 := σ) dX8_arrive_64 rfl lk_X8_69 rfl rfl (Nat.le_of_ble_eq_true rfl) (f_J6_bitCount_0f7a4 (sh := shC) σ x5  (d := d) (by omega)) ?_
  refine ax_istore (q := 69) (lv2 := [some (ax_r 6), none, some (ax_i x2), none, some (ax_i x4), some (ax_i x5), some (ax_i (v_J6_bitCount_0f7a4 x5)), none, none]) dX8_arrive_67 rfl (by decide) rfl rfl ?_
  exact k1
set_option maxRecDepth 20000 in
theorem s_X8_arrive_69 {d : Nat} (hd : 1 ≤ d) {Q : Option ax_V → ax_S → Prop} (σ : ax_S) (x2 : Int32) (x4 : Int32) (x5 : Int32) (x6 : Int32) (h1 : (¬ x6 = 0) → ¬ (x6 + (1 : Int32)) = 0) (k2 : (¬ x6 = 0) → ((σ.1 4 5) = (-1 : Int32)) → ax_W shC (d + 1) mX8_arrive Q 168 [some (ax_r 6), none, some (ax_i x2), none, some (ax_i x4), some (ax_i x5), some (ax_i x6), some (ax_i ((x4 / (x6 + (1 : Int32))) + (σ.1 5 13))), none] [] σ) (h3 : (¬ x6 = 0) → (¬ ((σ.1 4 5) = (-1 : Int32))) → vp_in x2 8) (k4 : (¬ x6 = 0) → (¬ ((σ.1 4 5) = (-1 : Int32))) → ax_Ct shC d mX7_worth [ax_r 4] (fun r u => ∃ x : Int32, r = some (ax_i x) ∧ ax_W shC (d + 1) mX8_arrive Q 166 [some (ax_r 6), none, some (ax_i x2), none, some (ax_i x4), some (ax_i x5), some (ax_i x6), none, none] (ax_i x :: []) u) (ax_ui (ax_ui (ax_ui (ax_ui (ax_ui (ax_ui σ 21 0 x4) 21 1 (σ.1 24 (Int32.toNatClampNeg x2))) 21 2 (σ.1 25 (Int32.toNatClampNeg x2))) 21 3 (σ.1 26 (Int32.toNatClampNeg x2))) 21 4 x6) 21 5 (σ.1 5 13))) (h5 : (¬ (¬ x6 = 0)) → vp_in x2 8) (k6 : (¬ (¬ x6 = 0)) → Q none (ax_ui σ 32 (Int32.toNatClampNeg x2) ((σ.1 32 (Int32.toNatClampNeg x2)) + x4))) : ax_W shC (d + 1) mX8_arrive Q 69 [some (ax_r 6), none, some (ax_i x2), none, some (ax_i x4), some (ax_i x5), some (ax_i x6), none, none] [] σ := by
  refine ax_iload (q := 71) dX8_arrive_69 rfl rfl ?_
  refine ax_if_ne (tgt := 86) (q := 74) dX8_arrive_71 (by decide) rfl (fun c1 => ?_) (fun c1 => ?_)
  · refine ax_iload (q := 88) dX8_arrive_86 rfl rfl ?_
    refine ax_iload (q := 90) dX8_arrive_88 rfl rfl ?_
    refine ax_iconst (q := 91) dX8_arrive_90 rfl ki_1 ?_
    refine ax_iadd (q := 92) dX8_arrive_91 rfl ?_
    refine ax_idiv (q := 93) dX8_arrive_92 rfl (h1 c1) ?_
    refine ax_aload_n (q := 94) (i := 0) dX8_arrive_93 rfl rfl rfl ?_
    refine ax_get (q := 97) (k := 6) (j := 0) (v := ax_r 5) dX8_arrive_94 rfl shC_6 rfl rfl rfl (by decide) fl_X8_24 ?_
    refine ax_get (q := 100) (k := 5) (j := 13) (v := ax_i (σ.1 5 13)) dX8_arrive_97 rfl shC_5 rfl rfl rfl (by decide) fl_X8_75 ?_
    refine ax_iadd (q := 101) dX8_arrive_100 rfl ?_
    refine ax_istore (q := 103) (lv2 := [some (ax_r 6), none, some (ax_i x2), none, some (ax_i x4), some (ax_i x5), some (ax_i x6), some (ax_i ((x4 / (x6 + (1 : Int32))) + (σ.1 5 13))), none]) dX8_arrive_101 rfl (by decide) rfl rfl ?_
    refine ax_aload_n (q := 104) (i := 0) dX8_arrive_103 rfl rfl rfl ?_
    refine ax_get (q := 107) (k := 6) (j := 1) (v := ax_r 4) dX8_arrive_104 rfl shC_6 rfl rfl rfl (by decide) fl_X8_28 ?_
    refine ax_get (q := 110) (k := 4) (j := 5) (v := ax_i (σ.1 4 5)) dX8_arrive_107 rfl shC_4 rfl rfl rfl (by decide) fl_X8_78 ?_
    refine ax_iconst (q := 111) dX8_arrive_110 rfl ki_m1 ?_
    refine ax_icmp_eq (tgt := 168) (q := 114) dX8_arrive_111 (by decide) rfl (fun c2 => ?_) (fun c2 => ?_)
    · exact (k2 c1 c2)
    · refine ax_aload_n (q := 115) (i := 0) dX8_arrive_114 rfl rfl rfl ?_
      refine ax_get (q := 118) (k := 6) (j := 1) (v := ax_r 4) dX8_arrive_115 rfl shC_6 rfl rfl rfl (by decide) fl_X8_28 ?_
      refine ax_iload (q := 120) dX8_arrive_118 rfl rfl ?_
      refine ax_aload_n (q := 121) (i := 0) dX8_arrive_120 rfl rfl rfl ?_
      refine ax_get (q := 124) (k := 6) (j := 0) (v := ax_r 5) dX8_arrive_121 rfl shC_6 rfl rfl rfl (by decide) fl_X8_24 ?_
      refine ax_get (q := 127) (k := 5) (j := 1) (v := ax_r 24) dX8_arrive_124 rfl shC_5 rfl rfl rfl (by decide) fl_X8_83 ?_
      refine ax_iload_n (q := 128) (i := 2) dX8_arrive_127 rfl rfl rfl ?_
      refine ax_iald (q := 129) (a := (Int32.toNatClampNeg x2)) (v := (σ.1 24 (Int32.toNatClampNeg x2))) dX8_arrive_128 rfl shC_24 (h3 c1 c2) rfl rfl ?_
      refine ax_aload_n (q := 130) (i := 0) dX8_arrive_129 rfl rfl rfl ?_
      refine ax_get (q := 133) (k := 6) (j := 0) (v := ax_r 5) dX8_arrive_130 rfl shC_6 rfl rfl rfl (by decide) fl_X8_24 ?_
      refine ax_get (q := 136) (k := 5) (j := 2) (v := ax_r 25) dX8_arrive_133 rfl shC_5 rfl rfl rfl (by decide) fl_X8_86 ?_
      refine ax_iload_n (q := 137) (i := 2) dX8_arrive_136 rfl rfl rfl ?_
      refine ax_iald (q := 138) (a := (Int32.toNatClampNeg x2)) (v := (σ.1 25 (Int32.toNatClampNeg x2))) dX8_arrive_137 rfl shC_25 (h3 c1 c2) rfl rfl ?_
      refine ax_aload_n (q := 139) (i := 0) dX8_arrive_138 rfl rfl rfl ?_
      refine ax_get (q := 142) (k := 6) (j := 0) (v := ax_r 5) dX8_arrive_139 rfl shC_6 rfl rfl rfl (by decide) fl_X8_24 ?_
      refine ax_get (q := 145) (k := 5) (j := 3) (v := ax_r 26) dX8_arrive_142 rfl shC_5 rfl rfl rfl (by decide) fl_X8_89 ?_
      refine ax_iload_n (q := 146) (i := 2) dX8_arrive_145 rfl rfl rfl ?_
      refine ax_iald (q := 147) (a := (Int32.toNatClampNeg x2)) (v := (σ.1 26 (Int32.toNatClampNeg x2))) dX8_arrive_146 rfl shC_26 (h3 c1 c2) rfl rfl ?_
      refine ax_iload (q := 149) dX8_arrive_147 rfl rfl ?_
      refine ax_aload_n (q := 150) (i := 0) dX8_arrive_149 rfl rfl rfl ?_
      refine ax_get (q := 153) (k := 6) (j := 0) (v := ax_r 5) dX8_arrive_150 rfl shC_6 rfl rfl rfl (by decide) fl_X8_24 ?_
      refine ax_get (q := 156) (k := 5) (j := 13) (v := ax_i (σ.1 5 13)) dX8_arrive_153 rfl shC_5 rfl rfl rfl (by decide) fl_X8_75 ?_
      refine ax_callVfv (q := 159) (As := [ax_i x4, ax_i (σ.1 24 (Int32.toNatClampNeg x2)), ax_i (σ.1 25 (Int32.toNatClampNeg x2)), ax_i (σ.1 26 (Int32.toNatClampNeg x2)), ax_i x6, ax_i (σ.1 5 13)]) (st := []) (σ2 := (ax_ui (ax_ui (ax_ui (ax_ui (ax_ui (ax_ui σ 21 0 x4) 21 1 (σ.1 24 (Int32.toNatClampNeg x2))) 21 2 (σ.1 25 (Int32.toNatClampNeg x2))) 21 3 (σ.1 26 (Int32.toNatClampNeg x2))) 21 4 x6) 21 5 (σ.1 5 13))) dX8_arrive_156 rfl lk_X8_92 shC_4 rfl rfl rfl rfl (Nat.le_of_ble_eq_true rfl) (f_X7_tell σ x4 (σ.1 24 (Int32.toNatClampNeg x2)) (σ.1 25 (Int32.toNatClampNeg x2)) (σ.1 26 (Int32.toNatClampNeg x2)) x6 (σ.1 5 13) (ax_inl 0 6 (by decide) (by decide)) (ax_inl 1 6 (by decide) (by decide)) (ax_inl 2 6 (by decide) (by decide)) (ax_inl 3 6 (by decide) (by decide)) (ax_inl 4 6 (by decide) (by decide)) (ax_inl 5 6 (by decide) (by decide)) (d := d) (by omega)) ?_
      refine ax_aload_n (q := 160) (i := 0) dX8_arrive_159 rfl rfl rfl ?_
      refine ax_get (q := 163) (k := 6) (j := 1) (v := ax_r 4) dX8_arrive_160 rfl shC_6 rfl rfl rfl (by decide) fl_X8_28 ?_
      refine ax_fg (lv2 := [some (ax_r 6), none, some (ax_i x2), none, some (ax_i x4), some (ax_i x5), some (ax_i x6), none, none]) ⟨rfl, rfl, rfl, rfl, rfl, trivial⟩ ?_
      exact ax_callVci (q := 166) (As := []) (st := []) dX8_arrive_163 rfl lk_X8_96 shC_4 rfl rfl rfl rfl (Nat.le_of_ble_eq_true rfl) (k4 c1 c2)
  · refine ax_aload_n (q := 75) (i := 0) dX8_arrive_74 rfl rfl rfl ?_
    refine ax_get (q := 78) (k := 6) (j := 2) (v := ax_r 32) dX8_arrive_75 rfl shC_6 rfl rfl rfl (by decide) fl_X8_9 ?_
    refine ax_iload_n (q := 79) (i := 2) dX8_arrive_78 rfl rfl rfl ?_
    refine ax_dup2_11 (q := 80) dX8_arrive_79 rfl ?_
    refine ax_iald (q := 81) (a := (Int32.toNatClampNeg x2)) (v := (σ.1 32 (Int32.toNatClampNeg x2))) dX8_arrive_80 rfl shC_32 (h5 c1) rfl rfl ?_
    refine ax_iload (q := 83) dX8_arrive_81 rfl rfl ?_
    refine ax_iadd (q := 84) dX8_arrive_83 rfl ?_
    refine ax_iast (q := 85) (a := (Int32.toNatClampNeg x2)) dX8_arrive_84 rfl shC_32 (h5 c1) rfl ?_
    exact ax_vret dX8_arrive_85 rfl (k6 c1)
set_option maxRecDepth 20000 in
theorem s_X8_arrive_166 {d : Nat} (hd : 0 ≤ d) {Q : Option ax_V → ax_S → Prop} (σ : ax_S) (x2 : Int32) (x4 : Int32) (x5 : Int32) (x6 : Int32) (rr : Int32) (k1 : ax_W shC (d + 1) mX8_arrive Q 168 [some (ax_r 6), none, some (ax_i x2), none, some (ax_i x4), some (ax_i x5), some (ax_i x6), some (ax_i rr), none] [] σ) : ax_W shC (d + 1) mX8_arrive Q 166 [some (ax_r 6), none, some (ax_i x2), none, some (ax_i x4), some (ax_i x5), some (ax_i x6), none, none] [ax_i rr] σ := by
  refine ax_istore (q := 168) (lv2 := [some (ax_r 6), none, some (ax_i x2), none, some (ax_i x4), some (ax_i x5), some (ax_i x6), some (ax_i rr), none]) dX8_arrive_166 rfl (by decide) rfl rfl ?_
  exact k1
set_option maxRecDepth 20000 in
theorem s_X8_arrive_168 {d : Nat} (hd : 0 ≤ d) {Q : Option ax_V → ax_S → Prop} (σ : ax_S) (x2 : Int32) (x4 : Int32) (x5 : Int32) (x6 : Int32) (x7 : Int32) (h1 : ¬ x6 = 0) (h2 : vp_in x2 8) (k3 : ax_Ct shC d mX8_pass [ax_r 6, ax_i x2, ax_i x5, ax_i ((x4 - (if (0 : Int32) < (if x7 < x4 then x7 else x4) then (if x7 < x4 then x7 else x4) else (0 : Int32))) / x6)] (fun r u => r = none ∧ ax_W shC (d + 1) mX8_arrive Q 213 [none, none, none, none, none, none, none, none, none] [] u) (ax_ui σ 32 (Int32.toNatClampNeg x2) ((σ.1 32 (Int32.toNatClampNeg x2)) + (x4 - (((x4 - (if (0 : Int32) < (if x7 < x4 then x7 else x4) then (if x7 < x4 then x7 else x4) else (0 : Int32))) / x6) * x6))))) : ax_W shC (d + 1) mX8_arrive Q 168 [some (ax_r 6), none, some (ax_i x2), none, some (ax_i x4), some (ax_i x5), some (ax_i x6), some (ax_i x7), none] [] σ := by
  refine ax_iload (q := 170) dX8_arrive_168 rfl rfl ?_
  refine ax_iconst (q := 171) dX8_arrive_170 rfl ki_0 ?_
  refine ax_iload (q := 173) dX8_arrive_171 rfl rfl ?_
  refine ax_iload (q := 175) dX8_arrive_173 rfl rfl ?_
  refine ax_mmin (q := 178) dX8_arrive_175 rfl mk_X8_99 (Nat.le_of_ble_eq_true rfl) ?_
  refine ax_mmax (q := 181) dX8_arrive_178 rfl mk_X8_104 (Nat.le_of_ble_eq_true rfl) ?_
  refine ax_isub (q := 182) dX8_arrive_181 rfl ?_
  refine ax_iload (q := 184) dX8_arrive_182 rfl rfl ?_
  refine ax_idiv (q := 185) dX8_arrive_184 rfl h1 ?_
  refine ax_istore (q := 187) (lv2 := [some (ax_r 6), none, some (ax_i x2), none, some (ax_i x4), some (ax_i x5), some (ax_i x6), some (ax_i x7), some (ax_i ((x4 - (if (0 : Int32) < (if x7 < x4 then x7 else x4) then (if x7 < x4 then x7 else x4) else (0 : Int32))) / x6))]) dX8_arrive_185 rfl (by decide) rfl rfl ?_
  refine ax_aload_n (q := 188) (i := 0) dX8_arrive_187 rfl rfl rfl ?_
  refine ax_get (q := 191) (k := 6) (j := 2) (v := ax_r 32) dX8_arrive_188 rfl shC_6 rfl rfl rfl (by decide) fl_X8_9 ?_
  refine ax_iload_n (q := 192) (i := 2) dX8_arrive_191 rfl rfl rfl ?_
  refine ax_dup2_11 (q := 193) dX8_arrive_192 rfl ?_
  refine ax_iald (q := 194) (a := (Int32.toNatClampNeg x2)) (v := (σ.1 32 (Int32.toNatClampNeg x2))) dX8_arrive_193 rfl shC_32 h2 rfl rfl ?_
  refine ax_iload (q := 196) dX8_arrive_194 rfl rfl ?_
  refine ax_iload (q := 198) dX8_arrive_196 rfl rfl ?_
  refine ax_iload (q := 200) dX8_arrive_198 rfl rfl ?_
  refine ax_imul (q := 201) dX8_arrive_200 rfl ?_
  refine ax_isub (q := 202) dX8_arrive_201 rfl ?_
  refine ax_iadd (q := 203) dX8_arrive_202 rfl ?_
  refine ax_iast (q := 204) (a := (Int32.toNatClampNeg x2)) dX8_arrive_203 rfl shC_32 h2 rfl ?_
  refine ax_aload_n (q := 205) (i := 0) dX8_arrive_204 rfl rfl rfl ?_
  refine ax_iload_n (q := 206) (i := 2) dX8_arrive_205 rfl rfl rfl ?_
  refine ax_iload (q := 208) dX8_arrive_206 rfl rfl ?_
  refine ax_iload (q := 210) dX8_arrive_208 rfl rfl ?_
  refine ax_fg (lv2 := [none, none, none, none, none, none, none, none, none]) trivial ?_
  exact ax_callVcv (q := 213) (As := [ax_i x2, ax_i x5, ax_i ((x4 - (if (0 : Int32) < (if x7 < x4 then x7 else x4) then (if x7 < x4 then x7 else x4) else (0 : Int32))) / x6)]) (st := []) dX8_arrive_210 rfl lk_X8_107 shC_6 rfl rfl rfl rfl (Nat.le_of_ble_eq_true rfl) k3
set_option maxRecDepth 20000 in
theorem s_X8_arrive_213 {d : Nat} (hd : 0 ≤ d) {Q : Option ax_V → ax_S → Prop} (σ : ax_S)  (k1 : Q none σ) : ax_W shC (d + 1) mX8_arrive Q 213 [none, none, none, none, none, none, none, none, none] [] σ := by
  exact ax_vret dX8_arrive_213 rfl k1
set_option maxRecDepth 20000 in
theorem s_X8_burningBits_0 {d : Nat} (hd : 0 ≤ d) {Q : Option ax_V → ax_S → Prop} (σ : ax_S)  (k1 : ax_W shC (d + 1) mX8_burningBits Q 4 [some (ax_r 6), some (ax_i (0 : Int32)), some (ax_i (0 : Int32))] [] σ) : ax_W shC (d + 1) mX8_burningBits Q 0 [some (ax_r 6), none, none] [] σ := by
  refine ax_iconst (q := 1) dX8_burningBits_0 rfl ki_0 ?_
  refine ax_istore_n (q := 2) (i := 1) (lv2 := [some (ax_r 6), some (ax_i (0 : Int32)), none]) dX8_burningBits_1 rfl rfl (by decide) rfl rfl ?_
  refine ax_iconst (q := 3) dX8_burningBits_2 rfl ki_0 ?_
  refine ax_istore_n (q := 4) (i := 2) (lv2 := [some (ax_r 6), some (ax_i (0 : Int32)), some (ax_i (0 : Int32))]) dX8_burningBits_3 rfl rfl (by decide) rfl rfl ?_
  exact k1
set_option maxRecDepth 20000 in
theorem s_X8_burningBits_4 {d : Nat} (hd : 0 ≤ d) {Q : Option ax_V → ax_S → Prop} (σ : ax_S) (x1 : Int32) (x2 : Int32) (k1 : ((σ.1 5 9) ≤ x2) → Q (some (ax_i x1)) σ) (h2 : (¬ ((σ.1 5 9) ≤ x2)) → vp_in x2 8) (k3 : (¬ ((σ.1 5 9) ≤ x2)) → ((σ.1 32 (Int32.toNatClampNeg x2)) ≤ (σ.1 25 (Int32.toNatClampNeg x2))) → ax_W shC (d + 1) mX8_burningBits Q 4 [some (ax_r 6), some (ax_i x1), some (ax_i (x2 + (1 : Int32)))] [] σ) (k4 : (¬ ((σ.1 5 9) ≤ x2)) → (¬ ((σ.1 32 (Int32.toNatClampNeg x2)) ≤ (σ.1 25 (Int32.toNatClampNeg x2)))) → ax_W shC (d + 1) mX8_burningBits Q 4 [some (ax_r 6), some (ax_i (x1 ||| ((1 : Int32) <<< (x2 &&& 31)))), some (ax_i (x2 + (1 : Int32)))] [] σ) : ax_W shC (d + 1) mX8_burningBits Q 4 [some (ax_r 6), some (ax_i x1), some (ax_i x2)] [] σ := by
  refine ax_iload_n (q := 5) (i := 2) dX8_burningBits_4 rfl rfl rfl ?_
  refine ax_aload_n (q := 6) (i := 0) dX8_burningBits_5 rfl rfl rfl ?_
  refine ax_get (q := 9) (k := 6) (j := 0) (v := ax_r 5) dX8_burningBits_6 rfl shC_6 rfl rfl rfl (by decide) fl_X8_24 ?_
  refine ax_get (q := 12) (k := 5) (j := 9) (v := ax_i (σ.1 5 9)) dX8_burningBits_9 rfl shC_5 rfl rfl rfl (by decide) fl_X8_122 ?_
  refine ax_icmp_ge (tgt := 45) (q := 15) dX8_burningBits_12 (by decide) rfl (fun c1 => ?_) (fun c1 => ?_)
  · refine ax_iload_n (q := 46) (i := 1) dX8_burningBits_45 rfl rfl rfl ?_
    exact ax_iret dX8_burningBits_46 rfl rfl (k1 c1)
  · refine ax_aload_n (q := 16) (i := 0) dX8_burningBits_15 rfl rfl rfl ?_
    refine ax_get (q := 19) (k := 6) (j := 2) (v := ax_r 32) dX8_burningBits_16 rfl shC_6 rfl rfl rfl (by decide) fl_X8_9 ?_
    refine ax_iload_n (q := 20) (i := 2) dX8_burningBits_19 rfl rfl rfl ?_
    refine ax_iald (q := 21) (a := (Int32.toNatClampNeg x2)) (v := (σ.1 32 (Int32.toNatClampNeg x2))) dX8_burningBits_20 rfl shC_32 (h2 c1) rfl rfl ?_
    refine ax_aload_n (q := 22) (i := 0) dX8_burningBits_21 rfl rfl rfl ?_
    refine ax_get (q := 25) (k := 6) (j := 0) (v := ax_r 5) dX8_burningBits_22 rfl shC_6 rfl rfl rfl (by decide) fl_X8_24 ?_
    refine ax_get (q := 28) (k := 5) (j := 2) (v := ax_r 25) dX8_burningBits_25 rfl shC_5 rfl rfl rfl (by decide) fl_X8_86 ?_
    refine ax_iload_n (q := 29) (i := 2) dX8_burningBits_28 rfl rfl rfl ?_
    refine ax_iald (q := 30) (a := (Int32.toNatClampNeg x2)) (v := (σ.1 25 (Int32.toNatClampNeg x2))) dX8_burningBits_29 rfl shC_25 (h2 c1) rfl rfl ?_
    refine ax_icmp_le (tgt := 39) (q := 33) dX8_burningBits_30 (by decide) rfl (fun c2 => ?_) (fun c2 => ?_)
    · refine ax_iincK (q := 42) (lv2 := [some (ax_r 6), some (ax_i x1), some (ax_i (x2 + (1 : Int32)))]) dX8_burningBits_39 rfl rfl ki_1 (by decide) rfl rfl ?_
      refine ax_goto (tgt := 4) dX8_burningBits_42 (by decide) ?_
      exact (k3 c1 c2)
    · refine ax_iload_n (q := 34) (i := 1) dX8_burningBits_33 rfl rfl rfl ?_
      refine ax_iconst (q := 35) dX8_burningBits_34 rfl ki_1 ?_
      refine ax_iload_n (q := 36) (i := 2) dX8_burningBits_35 rfl rfl rfl ?_
      refine ax_ishl (q := 37) dX8_burningBits_36 rfl ?_
      refine ax_ior (q := 38) dX8_burningBits_37 rfl ?_
      refine ax_istore_n (q := 39) (i := 1) (lv2 := [some (ax_r 6), some (ax_i (x1 ||| ((1 : Int32) <<< (x2 &&& 31)))), some (ax_i x2)]) dX8_burningBits_38 rfl rfl (by decide) rfl rfl ?_
      refine ax_iincK (q := 42) (lv2 := [some (ax_r 6), some (ax_i (x1 ||| ((1 : Int32) <<< (x2 &&& 31)))), some (ax_i (x2 + (1 : Int32)))]) dX8_burningBits_39 rfl rfl ki_1 (by decide) rfl rfl ?_
      refine ax_goto (tgt := 4) dX8_burningBits_42 (by decide) ?_
      exact (k4 c1 c2)
set_option maxRecDepth 20000 in
theorem s_X8_fall_0 {d : Nat} (hd : 0 ≤ d) {Q : Option ax_V → ax_S → Prop} (σ : ax_S) (a0 : Int32) (a1 : Int32) (a2 : Int32) (k1 : ax_Ct shC d mJ7_fill_53178 [ax_r 32, ax_i (0 : Int32)] (fun r u => r = none ∧ ax_W shC (d + 1) mX8_fall Q 8 [some (ax_r 6), some (ax_i a0), some (ax_i a1), some (ax_i a2), none] [] u) σ) : ax_W shC (d + 1) mX8_fall Q 0 [some (ax_r 6), some (ax_i a0), some (ax_i a1), some (ax_i a2), none] [] σ := by
  refine ax_aload_n (q := 1) (i := 0) dX8_fall_0 rfl rfl rfl ?_
  refine ax_get (q := 4) (k := 6) (j := 2) (v := ax_r 32) dX8_fall_1 rfl shC_6 rfl rfl rfl (by decide) fl_X8_9 ?_
  refine ax_iconst (q := 5) dX8_fall_4 rfl ki_0 ?_
  exact ax_callScv (q := 8) (As := [ax_r 32, ax_i (0 : Int32)]) (st := []) dX8_fall_5 rfl lk_X8_32 rfl rfl (Nat.le_of_ble_eq_true rfl) k1
set_option maxRecDepth 20000 in
theorem s_X8_fall_8 {d : Nat} (hd : 0 ≤ d) {Q : Option ax_V → ax_S → Prop} (σ : ax_S) (x1 : Int32) (x2 : Int32) (x3 : Int32) (k1 : ax_Ct shC d mX8_send [ax_r 6, ax_i x2, ax_i (-1 : Int32), ax_i x3] (fun r u => r = none ∧ ax_W shC (d + 1) mX8_fall Q 30 [some (ax_r 6), some (ax_i x1), none, none, none] [] u) (ax_ui (ax_ui (ax_ui σ 6 6 (0 : Int32)) 6 7 (0 : Int32)) 6 8 (0 : Int32))) : ax_W shC (d + 1) mX8_fall Q 8 [some (ax_r 6), some (ax_i x1), some (ax_i x2), some (ax_i x3), none] [] σ := by
  refine ax_aload_n (q := 9) (i := 0) dX8_fall_8 rfl rfl rfl ?_
  refine ax_iconst (q := 10) dX8_fall_9 rfl ki_0 ?_
  refine ax_puti (q := 13) (k := 6) (j := 6) dX8_fall_10 rfl shC_6 rfl rfl (by decide) fl_X8_38 rfl rfl rfl rfl ?_
  refine ax_aload_n (q := 14) (i := 0) dX8_fall_13 rfl rfl rfl ?_
  refine ax_iconst (q := 15) dX8_fall_14 rfl ki_0 ?_
  refine ax_puti (q := 18) (k := 6) (j := 7) dX8_fall_15 rfl shC_6 rfl rfl (by decide) fl_X8_42 rfl rfl rfl rfl ?_
  refine ax_aload_n (q := 19) (i := 0) dX8_fall_18 rfl rfl rfl ?_
  refine ax_iconst (q := 20) dX8_fall_19 rfl ki_0 ?_
  refine ax_puti (q := 23) (k := 6) (j := 8) dX8_fall_20 rfl shC_6 rfl rfl (by decide) fl_X8_45 rfl rfl rfl rfl ?_
  refine ax_aload_n (q := 24) (i := 0) dX8_fall_23 rfl rfl rfl ?_
  refine ax_iload_n (q := 25) (i := 2) dX8_fall_24 rfl rfl rfl ?_
  refine ax_iconst (q := 26) dX8_fall_25 rfl ki_m1 ?_
  refine ax_iload_n (q := 27) (i := 3) dX8_fall_26 rfl rfl rfl ?_
  refine ax_fg (lv2 := [some (ax_r 6), some (ax_i x1), none, none, none]) ⟨rfl, rfl, trivial⟩ ?_
  exact ax_callVcv (q := 30) (As := [ax_i x2, ax_i (-1 : Int32), ax_i x3]) (st := []) dX8_fall_27 rfl lk_X8_48 shC_6 rfl rfl rfl rfl (Nat.le_of_ble_eq_true rfl) k1
set_option maxRecDepth 20000 in
theorem s_X8_fall_30 {d : Nat} (hd : 0 ≤ d) {Q : Option ax_V → ax_S → Prop} (σ : ax_S) (x1 : Int32) (k1 : ax_W shC (d + 1) mX8_fall Q 33 [some (ax_r 6), some (ax_i x1), none, none, some (ax_i (0 : Int32))] [] σ) : ax_W shC (d + 1) mX8_fall Q 30 [some (ax_r 6), some (ax_i x1), none, none, none] [] σ := by
  refine ax_iconst (q := 31) dX8_fall_30 rfl ki_0 ?_
  refine ax_istore (q := 33) (lv2 := [some (ax_r 6), some (ax_i x1), none, none, some (ax_i (0 : Int32))]) dX8_fall_31 rfl (by decide) rfl rfl ?_
  exact k1
set_option maxRecDepth 20000 in
theorem s_X8_fall_33 {d : Nat} (hd : 0 ≤ d) {Q : Option ax_V → ax_S → Prop} (σ : ax_S) (x1 : Int32) (x4 : Int32) (k1 : ((σ.1 6 6) ≤ x4) → ax_Ct shC d mX8_burningBits [ax_r 6] (fun r u => ∃ x : Int32, r = some (ax_i x) ∧ ax_W shC (d + 1) mX8_fall Q 85 [none, none, none, none, none] (ax_i x :: []) u) σ) (k2 : (¬ ((σ.1 6 6) ≤ x4)) → ((35 : Int32) ≤ x4) → ax_Ct shC d mX8_burningBits [ax_r 6] (fun r u => ∃ x : Int32, r = some (ax_i x) ∧ ax_W shC (d + 1) mX8_fall Q 85 [none, none, none, none, none] (ax_i x :: []) u) σ) (h3 : (¬ ((σ.1 6 6) ≤ x4)) → (¬ ((35 : Int32) ≤ x4)) → vp_in x4 35) (k4 : (¬ ((σ.1 6 6) ≤ x4)) → (¬ ((35 : Int32) ≤ x4)) → ax_Ct shC d mX8_arrive [ax_r 6, ax_i x1, ax_i (σ.1 33 (Int32.toNatClampNeg x4)), ax_i (σ.1 34 (Int32.toNatClampNeg x4)), ax_i (σ.1 35 (Int32.toNatClampNeg x4))] (fun r u => r = none ∧ ax_W shC (d + 1) mX8_fall Q 75 [some (ax_r 6), some (ax_i x1), none, none, some (ax_i x4)] [] u) σ) : ax_W shC (d + 1) mX8_fall Q 33 [some (ax_r 6), some (ax_i x1), none, none, some (ax_i x4)] [] σ := by
  refine ax_iload (q := 35) dX8_fall_33 rfl rfl ?_
  refine ax_aload_n (q := 36) (i := 0) dX8_fall_35 rfl rfl rfl ?_
  refine ax_get (q := 39) (k := 6) (j := 6) (v := ax_i (σ.1 6 6)) dX8_fall_36 rfl shC_6 rfl rfl rfl (by decide) fl_X8_38 ?_
  refine ax_icmp_ge (tgt := 81) (q := 42) dX8_fall_39 (by decide) rfl (fun c1 => ?_) (fun c1 => ?_)
  · refine ax_aload_n (q := 82) (i := 0) dX8_fall_81 rfl rfl rfl ?_
    refine ax_fg (lv2 := [none, none, none, none, none]) trivial ?_
    exact ax_callVci (q := 85) (As := []) (st := []) dX8_fall_82 rfl lk_X8_56 shC_6 rfl rfl rfl rfl (Nat.le_of_ble_eq_true rfl) (k1 c1)
  · refine ax_iload (q := 44) dX8_fall_42 rfl rfl ?_
    refine ax_bipush (q := 46) dX8_fall_44 rfl kb_35 ?_
    refine ax_icmp_ge (tgt := 81) (q := 49) dX8_fall_46 (by decide) rfl (fun c2 => ?_) (fun c2 => ?_)
    · refine ax_aload_n (q := 82) (i := 0) dX8_fall_81 rfl rfl rfl ?_
      refine ax_fg (lv2 := [none, none, none, none, none]) trivial ?_
      exact ax_callVci (q := 85) (As := []) (st := []) dX8_fall_82 rfl lk_X8_56 shC_6 rfl rfl rfl rfl (Nat.le_of_ble_eq_true rfl) (k2 c1 c2)
    · refine ax_aload_n (q := 50) (i := 0) dX8_fall_49 rfl rfl rfl ?_
      refine ax_iload_n (q := 51) (i := 1) dX8_fall_50 rfl rfl rfl ?_
      refine ax_aload_n (q := 52) (i := 0) dX8_fall_51 rfl rfl rfl ?_
      refine ax_get (q := 55) (k := 6) (j := 3) (v := ax_r 33) dX8_fall_52 rfl shC_6 rfl rfl rfl (by decide) fl_X8_15 ?_
      refine ax_iload (q := 57) dX8_fall_55 rfl rfl ?_
      refine ax_iald (q := 58) (a := (Int32.toNatClampNeg x4)) (v := (σ.1 33 (Int32.toNatClampNeg x4))) dX8_fall_57 rfl shC_33 (h3 c1 c2) rfl rfl ?_
      refine ax_aload_n (q := 59) (i := 0) dX8_fall_58 rfl rfl rfl ?_
      refine ax_get (q := 62) (k := 6) (j := 4) (v := ax_r 34) dX8_fall_59 rfl shC_6 rfl rfl rfl (by decide) fl_X8_18 ?_
      refine ax_iload (q := 64) dX8_fall_62 rfl rfl ?_
      refine ax_iald (q := 65) (a := (Int32.toNatClampNeg x4)) (v := (σ.1 34 (Int32.toNatClampNeg x4))) dX8_fall_64 rfl shC_34 (h3 c1 c2) rfl rfl ?_
      refine ax_aload_n (q := 66) (i := 0) dX8_fall_65 rfl rfl rfl ?_
      refine ax_get (q := 69) (k := 6) (j := 5) (v := ax_r 35) dX8_fall_66 rfl shC_6 rfl rfl rfl (by decide) fl_X8_21 ?_
      refine ax_iload (q := 71) dX8_fall_69 rfl rfl ?_
      refine ax_iald (q := 72) (a := (Int32.toNatClampNeg x4)) (v := (σ.1 35 (Int32.toNatClampNeg x4))) dX8_fall_71 rfl shC_35 (h3 c1 c2) rfl rfl ?_
      exact ax_callVcv (q := 75) (As := [ax_i x1, ax_i (σ.1 33 (Int32.toNatClampNeg x4)), ax_i (σ.1 34 (Int32.toNatClampNeg x4)), ax_i (σ.1 35 (Int32.toNatClampNeg x4))]) (st := []) dX8_fall_72 rfl lk_X8_52 shC_6 rfl rfl rfl rfl (Nat.le_of_ble_eq_true rfl) (k4 c1 c2)
set_option maxRecDepth 20000 in
theorem s_X8_fall_75 {d : Nat} (hd : 0 ≤ d) {Q : Option ax_V → ax_S → Prop} (σ : ax_S) (x1 : Int32) (x4 : Int32) (k1 : ax_W shC (d + 1) mX8_fall Q 33 [some (ax_r 6), some (ax_i x1), none, none, some (ax_i (x4 + (1 : Int32)))] [] σ) : ax_W shC (d + 1) mX8_fall Q 75 [some (ax_r 6), some (ax_i x1), none, none, some (ax_i x4)] [] σ := by
  refine ax_iincK (q := 78) (lv2 := [some (ax_r 6), some (ax_i x1), none, none, some (ax_i (x4 + (1 : Int32)))]) dX8_fall_75 rfl rfl ki_1 (by decide) rfl rfl ?_
  refine ax_goto (tgt := 33) dX8_fall_78 (by decide) ?_
  exact k1
set_option maxRecDepth 20000 in
theorem s_X8_fall_85 {d : Nat} (hd : 0 ≤ d) {Q : Option ax_V → ax_S → Prop} (σ : ax_S) (rr : Int32) (k1 : Q (some (ax_i rr)) σ) : ax_W shC (d + 1) mX8_fall Q 85 [none, none, none, none, none] [ax_i rr] σ := by
  exact ax_iret dX8_fall_85 rfl rfl k1
set_option maxRecDepth 20000 in
theorem s_X9_addBytes_0 {d : Nat} (hd : 0 ≤ d) {Q : Option ax_V → ax_S → Prop} (σ : ax_S) (a0 : Int32) (k1 : ax_W shC (d + 1) mX9_addBytes Q 3 [some (ax_r 1), some (ax_i a0), some (ax_i (24 : Int32)), none] [] σ) : ax_W shC (d + 1) mX9_addBytes Q 0 [some (ax_r 1), some (ax_i a0), none, none] [] σ := by
  refine ax_bipush (q := 2) dX9_addBytes_0 rfl kb_24 ?_
  refine ax_istore_n (q := 3) (i := 2) (lv2 := [some (ax_r 1), some (ax_i a0), some (ax_i (24 : Int32)), none]) dX9_addBytes_2 rfl rfl (by decide) rfl rfl ?_
  exact k1
set_option maxRecDepth 20000 in
theorem s_X9_addBytes_3 {d : Nat} (hd : 0 ≤ d) {Q : Option ax_V → ax_S → Prop} (σ : ax_S) (x1 : Int32) (x2 : Int32) (k1 : (x2 < 0) → Q none σ) (k2 : (¬ (x2 < 0)) → (((x1 >>> (x2 &&& 31)) &&& (255 : Int32)) = 0) → ax_W shC (d + 1) mX9_addBytes Q 3 [some (ax_r 1), some (ax_i x1), some (ax_i (x2 + (-8 : Int32))), none] [] σ) (k3 : (¬ (x2 < 0)) → (¬ (((x1 >>> (x2 &&& 31)) &&& (255 : Int32)) = 0)) → ((Int32.ofNat 240) ≤ (σ.1 1 1)) → ax_W shC (d + 1) mX9_addBytes Q 3 [some (ax_r 1), some (ax_i x1), some (ax_i (x2 + (-8 : Int32))), none] [] σ) (h4 : (¬ (x2 < 0)) → (¬ (((x1 >>> (x2 &&& 31)) &&& (255 : Int32)) = 0)) → (¬ ((Int32.ofNat 240) ≤ (σ.1 1 1))) → vp_in (σ.1 1 1) 240) (k5 : (¬ (x2 < 0)) → (¬ (((x1 >>> (x2 &&& 31)) &&& (255 : Int32)) = 0)) → (¬ ((Int32.ofNat 240) ≤ (σ.1 1 1))) → ax_W shC (d + 1) mX9_addBytes Q 3 [some (ax_r 1), some (ax_i x1), some (ax_i (x2 + (-8 : Int32))), none] [] (ax_ui (ax_ui σ 14 (Int32.toNatClampNeg (σ.1 1 1)) ((x1 >>> (x2 &&& 31)) &&& (255 : Int32))) 1 1 ((σ.1 1 1) + (1 : Int32)))) : ax_W shC (d + 1) mX9_addBytes Q 3 [some (ax_r 1), some (ax_i x1), some (ax_i x2), none] [] σ := by
  refine ax_iload_n (q := 4) (i := 2) dX9_addBytes_3 rfl rfl rfl ?_
  refine ax_if_lt (tgt := 57) (q := 7) dX9_addBytes_4 (by decide) rfl (fun c1 => ?_) (fun c1 => ?_)
  · exact ax_vret dX9_addBytes_57 rfl (k1 c1)
  · refine ax_iload_n (q := 8) (i := 1) dX9_addBytes_7 rfl rfl rfl ?_
    refine ax_iload_n (q := 9) (i := 2) dX9_addBytes_8 rfl rfl rfl ?_
    refine ax_ishr (q := 10) dX9_addBytes_9 rfl ?_
    refine ax_sipush (q := 13) dX9_addBytes_10 rfl ks_255 ?_
    refine ax_iand (q := 14) dX9_addBytes_13 rfl ?_
    refine ax_istore_n (q := 15) (i := 3) (lv2 := [some (ax_r 1), some (ax_i x1), some (ax_i x2), some (ax_i ((x1 >>> (x2 &&& 31)) &&& (255 : Int32)))]) dX9_addBytes_14 rfl rfl (by decide) rfl rfl ?_
    refine ax_iload_n (q := 16) (i := 3) dX9_addBytes_15 rfl rfl rfl ?_
    refine ax_if_eq (tgt := 51) (q := 19) dX9_addBytes_16 (by decide) rfl (fun c2 => ?_) (fun c2 => ?_)
    · refine ax_iincK (q := 54) (lv2 := [some (ax_r 1), some (ax_i x1), some (ax_i (x2 + (-8 : Int32))), some (ax_i ((x1 >>> (x2 &&& 31)) &&& (255 : Int32)))]) dX9_addBytes_51 rfl rfl ki_m8 (by decide) rfl rfl ?_
      refine ax_goto (tgt := 3) dX9_addBytes_54 (by decide) ?_
      refine ax_fg (lv2 := [some (ax_r 1), some (ax_i x1), some (ax_i (x2 + (-8 : Int32))), none]) ⟨rfl, rfl, rfl, trivial⟩ ?_
      exact (k2 c1 c2)
    · refine ax_aload_n (q := 20) (i := 0) dX9_addBytes_19 rfl rfl rfl ?_
      refine ax_get (q := 23) (k := 1) (j := 1) (v := ax_i (σ.1 1 1)) dX9_addBytes_20 rfl shC_1 rfl rfl rfl (by decide) fl_X9_15 ?_
      refine ax_aload_n (q := 24) (i := 0) dX9_addBytes_23 rfl rfl rfl ?_
      refine ax_get (q := 27) (k := 1) (j := 0) (v := ax_r 14) dX9_addBytes_24 rfl shC_1 rfl rfl rfl (by decide) fl_X9_9 ?_
      refine ax_alen (q := 28) dX9_addBytes_27 rfl shC_14 ?_
      refine ax_icmp_ge (tgt := 51) (q := 31) dX9_addBytes_28 (by decide) rfl (fun c3 => ?_) (fun c3 => ?_)
      · refine ax_iincK (q := 54) (lv2 := [some (ax_r 1), some (ax_i x1), some (ax_i (x2 + (-8 : Int32))), some (ax_i ((x1 >>> (x2 &&& 31)) &&& (255 : Int32)))]) dX9_addBytes_51 rfl rfl ki_m8 (by decide) rfl rfl ?_
        refine ax_goto (tgt := 3) dX9_addBytes_54 (by decide) ?_
        refine ax_fg (lv2 := [some (ax_r 1), some (ax_i x1), some (ax_i (x2 + (-8 : Int32))), none]) ⟨rfl, rfl, rfl, trivial⟩ ?_
        exact (k3 c1 c2 c3)
      · refine ax_aload_n (q := 32) (i := 0) dX9_addBytes_31 rfl rfl rfl ?_
        refine ax_get (q := 35) (k := 1) (j := 0) (v := ax_r 14) dX9_addBytes_32 rfl shC_1 rfl rfl rfl (by decide) fl_X9_9 ?_
        refine ax_aload_n (q := 36) (i := 0) dX9_addBytes_35 rfl rfl rfl ?_
        refine ax_get (q := 39) (k := 1) (j := 1) (v := ax_i (σ.1 1 1)) dX9_addBytes_36 rfl shC_1 rfl rfl rfl (by decide) fl_X9_15 ?_
        refine ax_iload_n (q := 40) (i := 3) dX9_addBytes_39 rfl rfl rfl ?_
        refine ax_iast (q := 41) (a := (Int32.toNatClampNeg (σ.1 1 1))) dX9_addBytes_40 rfl shC_14 (h4 c1 c2 c3) rfl ?_
        refine ax_aload_n (q := 42) (i := 0) dX9_addBytes_41 rfl rfl rfl ?_
        refine ax_dupr (q := 43) dX9_addBytes_42 rfl ?_
        refine ax_get (q := 46) (k := 1) (j := 1) (v := ax_i (σ.1 1 1)) dX9_addBytes_43 rfl shC_1 rfl rfl rfl (by decide) fl_X9_15 ?_
        refine ax_iconst (q := 47) dX9_addBytes_46 rfl ki_1 ?_
        refine ax_iadd (q := 48) dX9_addBytes_47 rfl ?_
        refine ax_puti (q := 51) (k := 1) (j := 1) dX9_addBytes_48 rfl shC_1 rfl rfl (by decide) fl_X9_15 rfl rfl rfl rfl ?_
        refine ax_iincK (q := 54) (lv2 := [some (ax_r 1), some (ax_i x1), some (ax_i (x2 + (-8 : Int32))), some (ax_i ((x1 >>> (x2 &&& 31)) &&& (255 : Int32)))]) dX9_addBytes_51 rfl rfl ki_m8 (by decide) rfl rfl ?_
        refine ax_goto (tgt := 3) dX9_addBytes_54 (by decide) ?_
        refine ax_fg (lv2 := [some (ax_r 1), some (ax_i x1), some (ax_i (x2 + (-8 : Int32))), none]) ⟨rfl, rfl, rfl, trivial⟩ ?_
        exact (k5 c1 c2 c3)
set_option maxRecDepth 20000 in
theorem s_X10_add_0 {d : Nat} (hd : 0 ≤ d) {Q : Option ax_V → ax_S → Prop} (σ : ax_S) (a0 : Int32) (k1 : ((Int32.ofNat 120) ≤ (σ.1 11 1)) → Q none σ) (h2 : (¬ ((Int32.ofNat 120) ≤ (σ.1 11 1))) → vp_in (σ.1 11 1) 120) (k3 : (¬ ((Int32.ofNat 120) ≤ (σ.1 11 1))) → Q none (ax_ui (ax_ui σ 44 (Int32.toNatClampNeg (σ.1 11 1)) a0) 11 1 ((σ.1 11 1) + (1 : Int32)))) : ax_W shC (d + 1) mX10_add Q 0 [some (ax_r 11), some (ax_i a0)] [] σ := by
  refine ax_aload_n (q := 1) (i := 0) dX10_add_0 rfl rfl rfl ?_
  refine ax_get (q := 4) (k := 11) (j := 1) (v := ax_i (σ.1 11 1)) dX10_add_1 rfl shC_11 rfl rfl rfl (by decide) fl_X10_15 ?_
  refine ax_aload_n (q := 5) (i := 0) dX10_add_4 rfl rfl rfl ?_
  refine ax_get (q := 8) (k := 11) (j := 0) (v := ax_r 44) dX10_add_5 rfl shC_11 rfl rfl rfl (by decide) fl_X10_11 ?_
  refine ax_alen (q := 9) dX10_add_8 rfl shC_44 ?_
  refine ax_icmp_ge (tgt := 32) (q := 12) dX10_add_9 (by decide) rfl (fun c1 => ?_) (fun c1 => ?_)
  · exact ax_vret dX10_add_32 rfl (k1 c1)
  · refine ax_aload_n (q := 13) (i := 0) dX10_add_12 rfl rfl rfl ?_
    refine ax_get (q := 16) (k := 11) (j := 0) (v := ax_r 44) dX10_add_13 rfl shC_11 rfl rfl rfl (by decide) fl_X10_11 ?_
    refine ax_aload_n (q := 17) (i := 0) dX10_add_16 rfl rfl rfl ?_
    refine ax_get (q := 20) (k := 11) (j := 1) (v := ax_i (σ.1 11 1)) dX10_add_17 rfl shC_11 rfl rfl rfl (by decide) fl_X10_15 ?_
    refine ax_iload_n (q := 21) (i := 1) dX10_add_20 rfl rfl rfl ?_
    refine ax_iast (q := 22) (a := (Int32.toNatClampNeg (σ.1 11 1))) dX10_add_21 rfl shC_44 (h2 c1) rfl ?_
    refine ax_aload_n (q := 23) (i := 0) dX10_add_22 rfl rfl rfl ?_
    refine ax_dupr (q := 24) dX10_add_23 rfl ?_
    refine ax_get (q := 27) (k := 11) (j := 1) (v := ax_i (σ.1 11 1)) dX10_add_24 rfl shC_11 rfl rfl rfl (by decide) fl_X10_15 ?_
    refine ax_iconst (q := 28) dX10_add_27 rfl ki_1 ?_
    refine ax_iadd (q := 29) dX10_add_28 rfl ?_
    refine ax_puti (q := 32) (k := 11) (j := 1) dX10_add_29 rfl shC_11 rfl rfl (by decide) fl_X10_15 rfl rfl rfl rfl ?_
    exact ax_vret dX10_add_32 rfl (k3 c1)
set_option maxRecDepth 20000 in
theorem s_X10_gather_0 {d : Nat} (hd : 0 ≤ d) {Q : Option ax_V → ax_S → Prop} (σ : ax_S) (a0 : Int32) (a1 : Int32) (k1 : (¬ a1 = 0) → ax_W shC (d + 1) mX10_gather Q 17 [some (ax_r 11), some (ax_i a0), some (ax_i a1), some (ax_i (0 : Int32)), none] [] (ax_ui σ 11 1 (0 : Int32))) (k2 : (¬ (¬ a1 = 0)) → ax_Ct shC d mX10_add [ax_r 11, ax_i (0 : Int32)] (fun r u => r = none ∧ ax_W shC (d + 1) mX10_gather Q 14 [none, none, none, none, none] [] u) (ax_ui σ 11 1 (0 : Int32))) : ax_W shC (d + 1) mX10_gather Q 0 [some (ax_r 11), some (ax_i a0), some (ax_i a1), none, none] [] σ := by
  refine ax_aload_n (q := 1) (i := 0) dX10_gather_0 rfl rfl rfl ?_
  refine ax_iconst (q := 2) dX10_gather_1 rfl ki_0 ?_
  refine ax_puti (q := 5) (k := 11) (j := 1) dX10_gather_2 rfl shC_11 rfl rfl (by decide) fl_X10_15 rfl rfl rfl rfl ?_
  refine ax_iload_n (q := 6) (i := 2) dX10_gather_5 rfl rfl rfl ?_
  refine ax_if_ne (tgt := 15) (q := 9) dX10_gather_6 (by decide) rfl (fun c1 => ?_) (fun c1 => ?_)
  · refine ax_iconst (q := 16) dX10_gather_15 rfl ki_0 ?_
    refine ax_istore_n (q := 17) (i := 3) (lv2 := [some (ax_r 11), some (ax_i a0), some (ax_i a1), some (ax_i (0 : Int32)), none]) dX10_gather_16 rfl rfl (by decide) rfl rfl ?_
    exact (k1 c1)
  · refine ax_aload_n (q := 10) (i := 0) dX10_gather_9 rfl rfl rfl ?_
    refine ax_iconst (q := 11) dX10_gather_10 rfl ki_0 ?_
    refine ax_fg (lv2 := [none, none, none, none, none]) trivial ?_
    exact ax_callVcv (q := 14) (As := [ax_i (0 : Int32)]) (st := []) dX10_gather_11 rfl lk_X10_19 shC_11 rfl rfl rfl rfl (Nat.le_of_ble_eq_true rfl) (k2 c1)
set_option maxRecDepth 20000 in
theorem s_X10_gather_14 {d : Nat} (hd : 0 ≤ d) {Q : Option ax_V → ax_S → Prop} (σ : ax_S)  (k1 : Q none σ) : ax_W shC (d + 1) mX10_gather Q 14 [none, none, none, none, none] [] σ := by
  exact ax_vret dX10_gather_14 rfl k1
set_option maxRecDepth 20000 in
theorem s_X10_gather_17 {d : Nat} (hd : 1 ≤ d) {Q : Option ax_V → ax_S → Prop} (σ : ax_S) (x1 : Int32) (x2 : Int32) (x3 : Int32) (k1 : ((16 : Int32) ≤ x3) → Q none σ) (k2 : (¬ ((16 : Int32) ≤ x3)) → (¬ ((x1 >>> (x3 &&& 31)) &&& (1 : Int32)) = 0) → (¬ x2 = (1 : Int32)) → ax_W shC (d + 1) mX10_gather Q 52 [some (ax_r 11), some (ax_i x1), some (ax_i x2), some (ax_i x3), some (ax_i (0 : Int32))] [] σ) (k3 : (¬ ((16 : Int32) ≤ x3)) → (¬ ((x1 >>> (x3 &&& 31)) &&& (1 : Int32)) = 0) → (¬ (¬ x2 = (1 : Int32))) → ax_Ct shC d mX10_add [ax_r 11, ax_i ((1 : Int32) <<< (x3 &&& 31))] (fun r u => r = none ∧ ax_W shC (d + 1) mX10_gather Q 46 [some (ax_r 11), some (ax_i x1), some (ax_i x2), some (ax_i x3), none] [] u) σ) (k4 : (¬ ((16 : Int32) ≤ x3)) → (¬ (¬ ((x1 >>> (x3 &&& 31)) &&& (1 : Int32)) = 0)) → ax_W shC (d + 1) mX10_gather Q 17 [some (ax_r 11), some (ax_i x1), some (ax_i x2), some (ax_i (x3 + (1 : Int32))), none] [] σ) : ax_W shC (d + 1) mX10_gather Q 17 [some (ax_r 11), some (ax_i x1), some (ax_i x2), some (ax_i x3), none] [] σ := by
  refine ax_iload_n (q := 18) (i := 3) dX10_gather_17 rfl rfl rfl ?_
  refine ax_bipush (q := 20) dX10_gather_18 rfl kb_16 ?_
  refine ax_icmp_ge (tgt := 92) (q := 23) dX10_gather_20 (by decide) rfl (fun c1 => ?_) (fun c1 => ?_)
  · exact ax_vret dX10_gather_92 rfl (k1 c1)
  · refine ax_iload_n (q := 24) (i := 1) dX10_gather_23 rfl rfl rfl ?_
    refine ax_iload_n (q := 25) (i := 3) dX10_gather_24 rfl rfl rfl ?_
    refine ax_callNfi (q := 28) (As := [ax_i x1, ax_i x3]) (st := []) (x := ((x1 >>> (x3 &&& 31)) &&& (1 : Int32))) (σ2 := σ) dX10_gather_25 rfl lk_X10_23 rfl rfl (Nat.le_of_ble_eq_true rfl) (f_X11_bitOf (sh := shC) σ x1 x3  (d := d) (by omega)) ?_
    refine ax_if_ne (tgt := 34) (q := 31) dX10_gather_28 (by decide) rfl (fun c2 => ?_) (fun c2 => ?_)
    · refine ax_iload_n (q := 35) (i := 2) dX10_gather_34 rfl rfl rfl ?_
      refine ax_iconst (q := 36) dX10_gather_35 rfl ki_1 ?_
      refine ax_icmp_ne (tgt := 49) (q := 39) dX10_gather_36 (by decide) rfl (fun c3 => ?_) (fun c3 => ?_)
      · refine ax_iconst (q := 50) dX10_gather_49 rfl ki_0 ?_
        refine ax_istore (q := 52) (lv2 := [some (ax_r 11), some (ax_i x1), some (ax_i x2), some (ax_i x3), some (ax_i (0 : Int32))]) dX10_gather_50 rfl (by decide) rfl rfl ?_
        exact (k2 c1 c2 c3)
      · refine ax_aload_n (q := 40) (i := 0) dX10_gather_39 rfl rfl rfl ?_
        refine ax_iconst (q := 41) dX10_gather_40 rfl ki_1 ?_
        refine ax_iload_n (q := 42) (i := 3) dX10_gather_41 rfl rfl rfl ?_
        refine ax_ishl (q := 43) dX10_gather_42 rfl ?_
        exact ax_callVcv (q := 46) (As := [ax_i ((1 : Int32) <<< (x3 &&& 31))]) (st := []) dX10_gather_43 rfl lk_X10_19 shC_11 rfl rfl rfl rfl (Nat.le_of_ble_eq_true rfl) (k3 c1 c2 c3)
    · refine ax_goto (tgt := 86) dX10_gather_31 (by decide) ?_
      refine ax_iincK (q := 89) (lv2 := [some (ax_r 11), some (ax_i x1), some (ax_i x2), some (ax_i (x3 + (1 : Int32))), none]) dX10_gather_86 rfl rfl ki_1 (by decide) rfl rfl ?_
      refine ax_goto (tgt := 17) dX10_gather_89 (by decide) ?_
      exact (k4 c1 c2)
set_option maxRecDepth 20000 in
theorem s_X10_gather_46 {d : Nat} (hd : 0 ≤ d) {Q : Option ax_V → ax_S → Prop} (σ : ax_S) (x1 : Int32) (x2 : Int32) (x3 : Int32) (k1 : ax_W shC (d + 1) mX10_gather Q 17 [some (ax_r 11), some (ax_i x1), some (ax_i x2), some (ax_i (x3 + (1 : Int32))), none] [] σ) : ax_W shC (d + 1) mX10_gather Q 46 [some (ax_r 11), some (ax_i x1), some (ax_i x2), some (ax_i x3), none] [] σ := by
  refine ax_goto (tgt := 86) dX10_gather_46 (by decide) ?_
  refine ax_iincK (q := 89) (lv2 := [some (ax_r 11), some (ax_i x1), some (ax_i x2), some (ax_i (x3 + (1 : Int32))), none]) dX10_gather_86 rfl rfl ki_1 (by decide) rfl rfl ?_
  refine ax_goto (tgt := 17) dX10_gather_89 (by decide) ?_
  exact k1
set_option maxRecDepth 20000 in
theorem s_X10_gather_52 {d : Nat} (hd : 1 ≤ d) {Q : Option ax_V → ax_S → Prop} (σ : ax_S) (x1 : Int32) (x2 : Int32) (x3 : Int32) (x4 : Int32) (k1 : (x3 ≤ x4) → ax_W shC (d + 1) mX10_gather Q 17 [some (ax_r 11), some (ax_i x1), some (ax_i x2), some (ax_i (x3 + (1 : Int32))), none] [] σ) (k2 : (¬ (x3 ≤ x4)) → (¬ ((x1 >>> (x4 &&& 31)) &&& (1 : Int32)) = (1 : Int32)) → ax_W shC (d + 1) mX10_gather Q 52 [some (ax_r 11), some (ax_i x1), some (ax_i x2), some (ax_i x3), some (ax_i (x4 + (1 : Int32)))] [] σ) (k3 : (¬ (x3 ≤ x4)) → (¬ (¬ ((x1 >>> (x4 &&& 31)) &&& (1 : Int32)) = (1 : Int32))) → ax_Ct shC d mX10_add [ax_r 11, ax_i (((1 : Int32) <<< (x3 &&& 31)) ||| ((1 : Int32) <<< (x4 &&& 31)))] (fun r u => r = none ∧ ax_W shC (d + 1) mX10_gather Q 80 [some (ax_r 11), some (ax_i x1), some (ax_i x2), some (ax_i x3), some (ax_i x4)] [] u) σ) : ax_W shC (d + 1) mX10_gather Q 52 [some (ax_r 11), some (ax_i x1), some (ax_i x2), some (ax_i x3), some (ax_i x4)] [] σ := by
  refine ax_iload (q := 54) dX10_gather_52 rfl rfl ?_
  refine ax_iload_n (q := 55) (i := 3) dX10_gather_54 rfl rfl rfl ?_
  refine ax_icmp_ge (tgt := 86) (q := 58) dX10_gather_55 (by decide) rfl (fun c1 => ?_) (fun c1 => ?_)
  · refine ax_iincK (q := 89) (lv2 := [some (ax_r 11), some (ax_i x1), some (ax_i x2), some (ax_i (x3 + (1 : Int32))), some (ax_i x4)]) dX10_gather_86 rfl rfl ki_1 (by decide) rfl rfl ?_
    refine ax_goto (tgt := 17) dX10_gather_89 (by decide) ?_
    refine ax_fg (lv2 := [some (ax_r 11), some (ax_i x1), some (ax_i x2), some (ax_i (x3 + (1 : Int32))), none]) ⟨rfl, rfl, rfl, rfl, trivial⟩ ?_
    exact (k1 c1)
  · refine ax_iload_n (q := 59) (i := 1) dX10_gather_58 rfl rfl rfl ?_
    refine ax_iload (q := 61) dX10_gather_59 rfl rfl ?_
    refine ax_callNfi (q := 64) (As := [ax_i x1, ax_i x4]) (st := []) (x := ((x1 >>> (x4 &&& 31)) &&& (1 : Int32))) (σ2 := σ) dX10_gather_61 rfl lk_X10_23 rfl rfl (Nat.le_of_ble_eq_true rfl) (f_X11_bitOf (sh := shC) σ x1 x4  (d := d) (by omega)) ?_
    refine ax_iconst (q := 65) dX10_gather_64 rfl ki_1 ?_
    refine ax_icmp_ne (tgt := 80) (q := 68) dX10_gather_65 (by decide) rfl (fun c2 => ?_) (fun c2 => ?_)
    · refine ax_iincK (q := 83) (lv2 := [some (ax_r 11), some (ax_i x1), some (ax_i x2), some (ax_i x3), some (ax_i (x4 + (1 : Int32)))]) dX10_gather_80 rfl rfl ki_1 (by decide) rfl rfl ?_
      refine ax_goto (tgt := 52) dX10_gather_83 (by decide) ?_
      exact (k2 c1 c2)
    · refine ax_aload_n (q := 69) (i := 0) dX10_gather_68 rfl rfl rfl ?_
      refine ax_iconst (q := 70) dX10_gather_69 rfl ki_1 ?_
      refine ax_iload_n (q := 71) (i := 3) dX10_gather_70 rfl rfl rfl ?_
      refine ax_ishl (q := 72) dX10_gather_71 rfl ?_
      refine ax_iconst (q := 73) dX10_gather_72 rfl ki_1 ?_
      refine ax_iload (q := 75) dX10_gather_73 rfl rfl ?_
      refine ax_ishl (q := 76) dX10_gather_75 rfl ?_
      refine ax_ior (q := 77) dX10_gather_76 rfl ?_
      exact ax_callVcv (q := 80) (As := [ax_i (((1 : Int32) <<< (x3 &&& 31)) ||| ((1 : Int32) <<< (x4 &&& 31)))]) (st := []) dX10_gather_77 rfl lk_X10_19 shC_11 rfl rfl rfl rfl (Nat.le_of_ble_eq_true rfl) (k3 c1 c2)
set_option maxRecDepth 20000 in
theorem s_X10_gather_80 {d : Nat} (hd : 0 ≤ d) {Q : Option ax_V → ax_S → Prop} (σ : ax_S) (x1 : Int32) (x2 : Int32) (x3 : Int32) (x4 : Int32) (k1 : ax_W shC (d + 1) mX10_gather Q 52 [some (ax_r 11), some (ax_i x1), some (ax_i x2), some (ax_i x3), some (ax_i (x4 + (1 : Int32)))] [] σ) : ax_W shC (d + 1) mX10_gather Q 80 [some (ax_r 11), some (ax_i x1), some (ax_i x2), some (ax_i x3), some (ax_i x4)] [] σ := by
  refine ax_iincK (q := 83) (lv2 := [some (ax_r 11), some (ax_i x1), some (ax_i x2), some (ax_i x3), some (ax_i (x4 + (1 : Int32)))]) dX10_gather_80 rfl rfl ki_1 (by decide) rfl rfl ?_
  refine ax_goto (tgt := 52) dX10_gather_83 (by decide) ?_
  exact k1
set_option maxRecDepth 20000 in
theorem s_X11_bytesOf_0 {d : Nat} (hd : 0 ≤ d) {Q : Option ax_V → ax_S → Prop} (σ : ax_S) (a0 : Int32) (k1 : ax_W shC (d + 1) mX11_bytesOf Q 4 [some (ax_i a0), some (ax_i (0 : Int32)), some (ax_i (0 : Int32))] [] σ) : ax_W shC (d + 1) mX11_bytesOf Q 0 [some (ax_i a0), none, none] [] σ := by
  refine ax_iconst (q := 1) dX11_bytesOf_0 rfl ki_0 ?_
  refine ax_istore_n (q := 2) (i := 1) (lv2 := [some (ax_i a0), some (ax_i (0 : Int32)), none]) dX11_bytesOf_1 rfl rfl (by decide) rfl rfl ?_
  refine ax_iconst (q := 3) dX11_bytesOf_2 rfl ki_0 ?_
  refine ax_istore_n (q := 4) (i := 2) (lv2 := [some (ax_i a0), some (ax_i (0 : Int32)), some (ax_i (0 : Int32))]) dX11_bytesOf_3 rfl rfl (by decide) rfl rfl ?_
  exact k1
set_option maxRecDepth 20000 in
theorem s_X11_bytesOf_4 {d : Nat} (hd : 0 ≤ d) {Q : Option ax_V → ax_S → Prop} (σ : ax_S) (x0 : Int32) (x1 : Int32) (x2 : Int32) (k1 : ((32 : Int32) ≤ x2) → Q (some (ax_i x1)) σ) (k2 : (¬ ((32 : Int32) ≤ x2)) → (((x0 >>> (x2 &&& 31)) &&& (255 : Int32)) = 0) → ax_W shC (d + 1) mX11_bytesOf Q 4 [some (ax_i x0), some (ax_i x1), some (ax_i (x2 + (8 : Int32)))] [] σ) (k3 : (¬ ((32 : Int32) ≤ x2)) → (¬ (((x0 >>> (x2 &&& 31)) &&& (255 : Int32)) = 0)) → ax_W shC (d + 1) mX11_bytesOf Q 4 [some (ax_i x0), some (ax_i (x1 + (1 : Int32))), some (ax_i (x2 + (8 : Int32)))] [] σ) : ax_W shC (d + 1) mX11_bytesOf Q 4 [some (ax_i x0), some (ax_i x1), some (ax_i x2)] [] σ := by
  refine ax_iload_n (q := 5) (i := 2) dX11_bytesOf_4 rfl rfl rfl ?_
  refine ax_bipush (q := 7) dX11_bytesOf_5 rfl kb_32 ?_
  refine ax_icmp_ge (tgt := 29) (q := 10) dX11_bytesOf_7 (by decide) rfl (fun c1 => ?_) (fun c1 => ?_)
  · refine ax_iload_n (q := 30) (i := 1) dX11_bytesOf_29 rfl rfl rfl ?_
    exact ax_iret dX11_bytesOf_30 rfl rfl (k1 c1)
  · refine ax_iload_n (q := 11) (i := 0) dX11_bytesOf_10 rfl rfl rfl ?_
    refine ax_iload_n (q := 12) (i := 2) dX11_bytesOf_11 rfl rfl rfl ?_
    refine ax_ishr (q := 13) dX11_bytesOf_12 rfl ?_
    refine ax_sipush (q := 16) dX11_bytesOf_13 rfl ks_255 ?_
    refine ax_iand (q := 17) dX11_bytesOf_16 rfl ?_
    refine ax_if_eq (tgt := 23) (q := 20) dX11_bytesOf_17 (by decide) rfl (fun c2 => ?_) (fun c2 => ?_)
    · refine ax_iincK (q := 26) (lv2 := [some (ax_i x0), some (ax_i x1), some (ax_i (x2 + (8 : Int32)))]) dX11_bytesOf_23 rfl rfl ki_8 (by decide) rfl rfl ?_
      refine ax_goto (tgt := 4) dX11_bytesOf_26 (by decide) ?_
      exact (k2 c1 c2)
    · refine ax_iincK (q := 23) (lv2 := [some (ax_i x0), some (ax_i (x1 + (1 : Int32))), some (ax_i x2)]) dX11_bytesOf_20 rfl rfl ki_1 (by decide) rfl rfl ?_
      refine ax_iincK (q := 26) (lv2 := [some (ax_i x0), some (ax_i (x1 + (1 : Int32))), some (ax_i (x2 + (8 : Int32)))]) dX11_bytesOf_23 rfl rfl ki_8 (by decide) rfl rfl ?_
      refine ax_goto (tgt := 4) dX11_bytesOf_26 (by decide) ?_
      exact (k3 c1 c2)
