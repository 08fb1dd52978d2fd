def ax_uf (σ : ax_S) (c : Nat) (f : Nat → Int32) : ax_S := (fun a b => if a = c then f b else σ.1 a b, σ.2)
theorem ax_w_uf {sh : List ax_H} {G : ax_G} {σ : ax_S} {c n : Nat} {b : Bool} {f : Nat → Int32} (hc : sh[c]? = some (Sum.inr (b, n))) :
    ax_w sh G (ax_uf σ c f) = (ax_w sh G σ).set c (G.1 c, Sum.inl (if b then G.2.2 else G.2.1, n, Sum.inl f)) := by
  have key : ∀ c' h', c' ≠ c → ax_e G (ax_uf σ c f) c' h' = ax_e G σ c' h' := by
    intro c' h' hn
    have h1 : ∀ j, (ax_uf σ c f).1 c' j = σ.1 c' j := fun j => by simp [ax_uf, hn]
    rcases h' with o | a
    · have h2 : ∀ (j : Nat) (g : ax_F), ax_fv G.1 (ax_uf σ c f) c' j g = ax_fv G.1 σ c' j g := by
        intro j g
        rcases g with _ | _ | k
        · simp only [ax_fv, h1]
        · rfl
        · rfl
      simp only [ax_e, h2]
    · have h2 : (ax_uf σ c f).1 c' = σ.1 c' := funext h1
      simp only [ax_e, h2]
  have h3 : (ax_uf σ c f).1 c = f := by funext j; simp [ax_uf]
  rw [ax_w_set hc key]
  simp only [ax_e, h3]
theorem ax_words (ad : Nat → Nat) : ∀ st : List ax_V, ((st.map (ax_v ad)).map fun v => v.category).sum = (st.map fun v => (ax_v (fun _ => 0) v).category).sum := by
  intro st
  induction st with
  | nil => rfl
  | cons a t ih =>
    simp only [List.map_cons, List.sum_cons]
    rw [ih]
    congr 1
    rcases a with x | x | x <;> rfl
theorem ax_mmmax1 : Cond.static Lib.Math.max.name ∈ ax_U := ax_in 709 (by decide +kernel) rfl
theorem ax_mmmax2 : Cond.code Lib.Math.max.name Lib.Math.max.code 2 (some .int) ∈ ax_U := ax_in 710 (by decide +kernel) rfl
theorem ax_mmmin1 : Cond.static Lib.Math.min.name ∈ ax_U := ax_in 619 (by decide +kernel) rfl
theorem ax_mmmin2 : Cond.code Lib.Math.min.name Lib.Math.min.code 2 (some .int) ∈ ax_U := ax_in 620 (by decide +kernel) rfl
theorem ax_mmabs1 : Cond.static Lib.Math.abs.name ∈ ax_U := ax_in 751 (by decide +kernel) rfl
theorem ax_mmabs2 : Cond.code Lib.Math.abs.name Lib.Math.abs.code 1 (some .int) ∈ ax_U := ax_in 752 (by decide +kernel) rfl
theorem ax_mmmax_long1 : Cond.static Lib.MathLoose.max_long.x ∈ ax_U := ax_in 1569 (by decide +kernel) rfl
theorem ax_mmmax_long2 : Cond.code Lib.MathLoose.max_long.x Lib.MathLoose.max_long.code 4 (some .long) ∈ ax_U := ax_in 1570 (by decide +kernel) rfl
theorem ax_mmmin_long1 : Cond.static Lib.MathLoose.min_long.x ∈ ax_U := ax_in 1566 (by decide +kernel) rfl
theorem ax_mmmin_long2 : Cond.code Lib.MathLoose.min_long.x Lib.MathLoose.min_long.code 4 (some .long) ∈ ax_U := ax_in 1567 (by decide +kernel) rfl
theorem ax_mini : Cond.initialized "java/lang/Math" ∈ ax_U := ax_in 14 (by decide +kernel) rfl
theorem ax_ac1 : Cond.native arraycopyName ∈ ax_U := ax_in 561 (by decide +kernel) rfl
theorem ax_ac2 : Cond.static arraycopyName ∈ ax_U := ax_in 560 (by decide +kernel) rfl
theorem ax_ac3 : Cond.initialized "java/lang/System" ∈ ax_U := ax_in 15 (by decide +kernel) rfl
theorem ax_cu0 : ∀ w ∈ u_ws RX0 TX0 15, w ∈ ax_U := fun w h => List.mem_filter.mpr ⟨List.mem_append_right _ ((goodIn_r (u_ws RX0 TX0 15) [184, 186, 188, 190, 192, 194, 196, 198, 200, 202, 204, 206, 208, 210, 212] (by decide +kernel) (by decide +kernel) : GoodIn tables_1 _) w h).1, List.all_eq_true.mp (by decide +kernel : (u_ws RX0 TX0 15).all goodWord = true) w h⟩
theorem ax_cu1 : ∀ w ∈ u_ws RX1 TX1 7, w ∈ ax_U := fun w h => List.mem_filter.mpr ⟨List.mem_append_right _ ((goodIn_r (u_ws RX1 TX1 7) [74, 76, 78, 80, 82, 84, 86] (by decide +kernel) (by decide +kernel) : GoodIn tables_1 _) w h).1, List.all_eq_true.mp (by decide +kernel : (u_ws RX1 TX1 7).all goodWord = true) w h⟩
theorem ax_cu2 : ∀ w ∈ u_ws RX2 TX2 4, w ∈ ax_U := fun w h => List.mem_filter.mpr ⟨List.mem_append_right _ ((goodIn_r (u_ws RX2 TX2 4) [279, 281, 283, 285] (by decide +kernel) (by decide +kernel) : GoodIn tables_1 _) w h).1, List.all_eq_true.mp (by decide +kernel : (u_ws RX2 TX2 4).all goodWord = true) w h⟩
theorem ax_cu3 : ∀ w ∈ u_ws RX3 TX3 5, w ∈ ax_U := fun w h => List.mem_filter.mpr ⟨List.mem_append_right _ ((goodIn_r (u_ws RX3 TX3 5) [304, 306, 308, 310, 312] (by decide +kernel) (by decide +kernel) : GoodIn tables_1 _) w h).1, List.all_eq_true.mp (by decide +kernel : (u_ws RX3 TX3 5).all goodWord = true) w h⟩
theorem ax_cu4 : ∀ w ∈ u_ws RX4 TX4 4, w ∈ ax_U := fun w h => List.mem_filter.mpr ⟨List.mem_append_right _ ((goodIn_r (u_ws RX4 TX4 4) [327, 329, 331, 333] (by decide +kernel) (by decide +kernel) : GoodIn tables_1 _) w h).1, List.all_eq_true.mp (by decide +kernel : (u_ws RX4 TX4 4).all goodWord = true) w h⟩
theorem ax_cu5 : ∀ w ∈ u_ws RX5 TX5 3, w ∈ ax_U := fun w h => List.mem_filter.mpr ⟨List.mem_append_right _ ((goodIn_r (u_ws RX5 TX5 3) [261, 263, 265] (by decide +kernel) (by decide +kernel) : GoodIn tables_1 _) w h).1, List.all_eq_true.mp (by decide +kernel : (u_ws RX5 TX5 3).all goodWord = true) w h⟩
theorem ax_cu6 : ∀ w ∈ u_ws RX6 TX6 3, w ∈ ax_U := fun w h => List.mem_filter.mpr ⟨List.mem_append_right _ ((goodIn_r (u_ws RX6 TX6 3) [100, 102, 104] (by decide +kernel) (by decide +kernel) : GoodIn tables_1 _) w h).1, List.all_eq_true.mp (by decide +kernel : (u_ws RX6 TX6 3).all goodWord = true) w h⟩
theorem ax_cu7 : ∀ w ∈ u_ws RX7 TX7 7, w ∈ ax_U := fun w h => List.mem_filter.mpr ⟨List.mem_append_right _ ((goodIn_r (u_ws RX7 TX7 7) [123, 125, 127, 129, 131, 133, 135] (by decide +kernel) (by decide +kernel) : GoodIn tables_1 _) w h).1, List.all_eq_true.mp (by decide +kernel : (u_ws RX7 TX7 7).all goodWord = true) w h⟩
theorem ax_cu8 : ∀ w ∈ u_ws RX8 TX8 9, w ∈ ax_U := fun w h => List.mem_filter.mpr ⟨List.mem_append_right _ ((goodIn_r (u_ws RX8 TX8 9) [232, 234, 236, 238, 240, 242, 244, 246, 248] (by decide +kernel) (by decide +kernel) : GoodIn tables_1 _) w h).1, List.all_eq_true.mp (by decide +kernel : (u_ws RX8 TX8 9).all goodWord = true) w h⟩
theorem ax_cu9 : ∀ w ∈ u_ws RX9 TX9 4, w ∈ ax_U := fun w h => List.mem_filter.mpr ⟨List.mem_append_right _ ((goodIn_r (u_ws RX9 TX9 4) [46, 48, 50, 52] (by decide +kernel) (by decide +kernel) : GoodIn tables_1 _) w h).1, List.all_eq_true.mp (by decide +kernel : (u_ws RX9 TX9 4).all goodWord = true) w h⟩
theorem ax_cu10 : ∀ w ∈ u_ws RX10 TX10 2, w ∈ ax_U := fun w h => List.mem_filter.mpr ⟨List.mem_append_right _ ((goodIn_r (u_ws RX10 TX10 2) [346, 348] (by decide +kernel) (by decide +kernel) : GoodIn tables_1 _) w h).1, List.all_eq_true.mp (by decide +kernel : (u_ws RX10 TX10 2).all goodWord = true) w h⟩
theorem ax_cu11 : ∀ w ∈ u_ws RX11 TX11 20, w ∈ ax_U := fun w h => List.mem_filter.mpr ⟨List.mem_append_right _ ((goodIn_r (u_ws RX11 TX11 20) [371, 373, 375, 377, 379, 381, 383, 385, 387, 389, 391, 393, 395, 397, 399, 401, 403, 405, 407, 409] (by decide +kernel) (by decide +kernel) : GoodIn tables_1 _) w h).1, List.all_eq_true.mp (by decide +kernel : (u_ws RX11 TX11 20).all goodWord = true) w h⟩
theorem ax_cu12 : ∀ w ∈ u_ws RX12 TX12 53, w ∈ ax_U := fun w h => List.mem_filter.mpr ⟨List.mem_append_right _ ((goodIn_r (u_ws RX12 TX12 53) [1210, 1212, 1214, 1216, 1218, 1220, 1222, 1224, 1226, 1228, 1230, 1232, 1234, 1236, 1238, 1240, 1242, 1244, 1246, 1248, 1250, 1252, 1254, 1256, 1258, 1260, 1262, 1264, 1266, 1268, 1270, 1272, 1274, 1276, 1278, 1280, 1282, 1284, 1286, 1288, 1290, 1292, 1294, 1296, 1298, 1300, 1302, 1304, 1306, 1308, 1310, 1312, 1314] (by decide +kernel) (by decide +kernel) : GoodIn tables_1 _) w h).1, List.all_eq_true.mp (by decide +kernel : (u_ws RX12 TX12 53).all goodWord = true) w h⟩
section AY
variable {sh : List ax_H} {d : Nat} {M : ax_M} {Q : Option ax_V → ax_S → Prop} {pc q : Nat} {lv : List (Option ax_V)} {st : List ax_V} {σ : ax_S}
/-- what a class's rows say -/
def ax_cok (ci : Nat) : Prop := ∀ (C : String) (T : u_T) (N : Nat), vwCl[ci]? = some (C, T, N) → (∀ w ∈ u_ws C T N, w ∈ ax_U) ∧ (∃ ty0 : Nat → FieldType, ∀ k, k < N → parseFieldDescriptor (T k).2.2.1 = some (ty0 k)) ∧ (∀ a, a < N → ∀ b, b < N → a ≠ b → (T a).2.1 ≠ (T b).2.1)

theorem ax_cok0 : ax_cok 0 := by
  intro C T N h
  cases h
  exact ⟨ax_cu0, ⟨tyX0, tyX0_ok⟩, nmX0⟩
theorem ax_cok1 : ax_cok 1 := by
  intro C T N h
  cases h
  exact ⟨ax_cu1, ⟨tyX1, tyX1_ok⟩, nmX1⟩
theorem ax_cok2 : ax_cok 2 := by
  intro C T N h
  cases h
  exact ⟨ax_cu2, ⟨tyX2, tyX2_ok⟩, nmX2⟩
theorem ax_cok3 : ax_cok 3 := by
  intro C T N h
  cases h
  exact ⟨ax_cu3, ⟨tyX3, tyX3_ok⟩, nmX3⟩
theorem ax_cok4 : ax_cok 4 := by
  intro C T N h
  cases h
  exact ⟨ax_cu4, ⟨tyX4, tyX4_ok⟩, nmX4⟩
theorem ax_cok5 : ax_cok 5 := by
  intro C T N h
  cases h
  exact ⟨ax_cu5, ⟨tyX5, tyX5_ok⟩, nmX5⟩
theorem ax_cok6 : ax_cok 6 := by
  intro C T N h
  cases h
  exact ⟨ax_cu6, ⟨tyX6, tyX6_ok⟩, nmX6⟩
theorem ax_cok7 : ax_cok 7 := by
  intro C T N h
  cases h
  exact ⟨ax_cu7, ⟨tyX7, tyX7_ok⟩, nmX7⟩
theorem ax_cok8 : ax_cok 8 := by
  intro C T N h
  cases h
  exact ⟨ax_cu8, ⟨tyX8, tyX8_ok⟩, nmX8⟩
theorem ax_cok9 : ax_cok 9 := by
  intro C T N h
  cases h
  exact ⟨ax_cu9, ⟨tyX9, tyX9_ok⟩, nmX9⟩
theorem ax_cok10 : ax_cok 10 := by
  intro C T N h
  cases h
  exact ⟨ax_cu10, ⟨tyX10, tyX10_ok⟩, nmX10⟩
theorem ax_cok11 : ax_cok 11 := by
  intro C T N h
  cases h
  exact ⟨ax_cu11, ⟨tyX11, tyX11_ok⟩, nmX11⟩
theorem ax_cok12 : ax_cok 12 := by
  intro C T N h
  cases h
  exact ⟨ax_cu12, ⟨tyX12, tyX12_ok⟩, nmX12⟩
theorem ax_cl : ∀ (ci : Nat) (C : String) (T : u_T) (N : Nat), vwCl[ci]? = some (C, T, N) → (∀ w ∈ u_ws C T N, w ∈ ax_U) ∧ (∃ ty0 : Nat → FieldType, ∀ k, k < N → parseFieldDescriptor (T k).2.2.1 = some (ty0 k)) ∧ (∀ a, a < N → ∀ b, b < N → a ≠ b → (T a).2.1 ≠ (T b).2.1) := by
  intro ci
  match ci with
  | 0 => exact ax_cok0
  | 1 => exact ax_cok1
  | 2 => exact ax_cok2
  | 3 => exact ax_cok3
  | 4 => exact ax_cok4
  | 5 => exact ax_cok5
  | 6 => exact ax_cok6
  | 7 => exact ax_cok7
  | 8 => exact ax_cok8
  | 9 => exact ax_cok9
  | 10 => exact ax_cok10
  | 11 => exact ax_cok11
  | 12 => exact ax_cok12
  | n + 13 => intro C T N h; simp [vwCl] at h
theorem ax_get {k j idx ci : Nat} {fs : List ax_F} {f : ax_F} {v : ax_V} {CC : String} {T : u_T} {N : Nat} (hd : decode M.2.1 pc = .ok (.getfield idx, 3)) (hq : pc + 3 = q) (hs : sh[k]? = some (Sum.inl (ci, fs))) (hf : fs[j]? = some f) (hv : ax_fx σ k j f = v) (hc : vwCl[ci]? = some (CC, T, N)) (hj : j < N) (hlk : Cond.fieldLink M.1.cls idx (T j).1 (T j).2.1 (T j).2.2.1 ∈ ax_U)
    (kk : ax_W sh d M Q q lv (v :: st) σ) : ax_W sh d M Q pc lv (ax_r k :: st) σ := by
  subst hq
  intro l dC dI G A p e R s m args below meth c C H locs ls hP hS hl
  have he := ax_w_at (G := G) (σ := σ) hs
  refine va_get (v := ax_v G.1 v) C.1 C.2.1 C.2.2.2.2.2.2.1 (ax_cl ci CC T N hc).1 C.2.2.2.2.1 C.2.2.2.2.2.2.2.1.1 hP k he hc j hj (C.2.2.2.2.2.2.1 _ hlk) (fun _ h9 => h9) ?_ hd (kk l dC dI G A p e R s m args below meth c C H locs ls hP hS hl)
  rw [List.getElem?_mapIdx]
  show Option.map _ fs[j]? = _
  rw [hf, ← hv]
  simp [ax_fvx]
theorem ax_puti {k j idx ci : Nat} {fs : List ax_F} {x : Int32} {CC : String} {T : u_T} {N : Nat} {ty : FieldType} (hd : decode M.2.1 pc = .ok (.putfield idx, 3)) (hq : pc + 3 = q) (hs : sh[k]? = some (Sum.inl (ci, fs))) (hf : fs[j]? = some none) (hc : vwCl[ci]? = some (CC, T, N)) (hj : j < N) (hlk : Cond.fieldLink M.1.cls idx (T j).1 (T j).2.1 (T j).2.2.1 ∈ ax_U) (hfin : (T j).2.2.2 = false) (hty : parseFieldDescriptor (T j).2.2.1 = some ty) (hn : narrow ty (.int x) = .int x) (hfit : fits ty (.int x) = true)
    (kk : ax_W sh d M Q q lv st (ax_ui σ k j x)) : ax_W sh d M Q pc lv (ax_i x :: ax_r k :: st) σ := by
  subst hq
  intro l dC dI G A p e R s m args below meth c C H locs ls hP hS hl
  have he := ax_w_at (G := G) (σ := σ) hs
  obtain ⟨h1, ⟨ty0, h2⟩, h3⟩ := ax_cl ci CC T N hc
  refine va_put (v := .int x) C.1 C.2.1 C.2.2.2.2.2.2.1 h1 ty0 h2 h3 C.2.2.2.2.1 C.2.2.2.2.2.2.2.1.1 hP (ax_D C.2.2.2.2.2.2.2.2.2.1 C.2.2.2.2.2.2.2.2.2.2.1) hS k he hc j hj (C.2.2.2.2.2.2.1 _ hlk) (fun _ h9 => h9) hfin hty hn hfit (by simpa using (List.getElem?_eq_some_iff.mp hf).1) hd (fun H1 locs1 hP1 _ hS1 => ?_)
  refine kk l dC dI G A p e R s m args below meth c C H1 locs1 ls ?_ hS1 hl
  rw [ax_w_ui hs hf]
  exact hP1
theorem ax_putl {k j idx ci : Nat} {fs : List ax_F} {x : Int64} {CC : String} {T : u_T} {N : Nat} {ty : FieldType} (hd : decode M.2.1 pc = .ok (.putfield idx, 3)) (hq : pc + 3 = q) (hs : sh[k]? = some (Sum.inl (ci, fs))) (hf : fs[j]? = some (some none)) (hc : vwCl[ci]? = some (CC, T, N)) (hj : j < N) (hlk : Cond.fieldLink M.1.cls idx (T j).1 (T j).2.1 (T j).2.2.1 ∈ ax_U) (hfin : (T j).2.2.2 = false) (hty : parseFieldDescriptor (T j).2.2.1 = some ty) (hn : narrow ty (.long x) = .long x) (hfit : fits ty (.long x) = true)
    (kk : ax_W sh d M Q q lv st (ax_ul σ k j x)) : ax_W sh d M Q pc lv (ax_l x :: ax_r k :: st) σ := by
  subst hq
  intro l dC dI G A p e R s m args below meth c C H locs ls hP hS hl
  have he := ax_w_at (G := G) (σ := σ) hs
  obtain ⟨h1, ⟨ty0, h2⟩, h3⟩ := ax_cl ci CC T N hc
  refine va_put (v := .long x) C.1 C.2.1 C.2.2.2.2.2.2.1 h1 ty0 h2 h3 C.2.2.2.2.1 C.2.2.2.2.2.2.2.1.1 hP (ax_D C.2.2.2.2.2.2.2.2.2.1 C.2.2.2.2.2.2.2.2.2.2.1) hS k he hc j hj (C.2.2.2.2.2.2.1 _ hlk) (fun _ h9 => h9) hfin hty hn hfit (by simpa using (List.getElem?_eq_some_iff.mp hf).1) hd (fun H1 locs1 hP1 _ hS1 => ?_)
  refine kk l dC dI G A p e R s m args below meth c C H1 locs1 ls ?_ hS1 hl
  rw [ax_w_ul hs hf]
  exact hP1
theorem ax_iald {k n a : Nat} {i v : Int32} (hd : decode M.2.1 pc = .ok (.iaload, 1)) (hq : pc + 1 = q) (hs : sh[k]? = some (Sum.inr (false, n))) (hin : vp_in i n) (ha : i.toNatClampNeg = a) (hv : σ.1 k a = v) (kk : ax_W sh d M Q q lv (ax_i v :: st) σ) : ax_W sh d M Q pc lv (ax_i i :: ax_r k :: st) σ := by
  subst hq
  subst hv
  subst ha
  intro l dC dI G A p e R s m args below meth c C H locs ls hP hS hl
  exact va_iald C.1 C.2.1 C.2.2.2.2.2.2.2.1.1 hP k 0 (ax_w_at (G := G) (σ := σ) hs) rfl hin hd (kk l dC dI G A p e R s m args below meth c C H locs ls hP hS hl)
theorem ax_zald {k n a : Nat} {i v : Int32} (hd : decode M.2.1 pc = .ok (.baload, 1)) (hq : pc + 1 = q) (hs : sh[k]? = some (Sum.inr (true, n))) (hin : vp_in i n) (ha : i.toNatClampNeg = a) (hv : σ.1 k a = v) (kk : ax_W sh d M Q q lv (ax_i v :: st) σ) : ax_W sh d M Q pc lv (ax_i i :: ax_r k :: st) σ := by
  subst hq
  subst hv
  subst ha
  intro l dC dI G A p e R s m args below meth c C H locs ls hP hS hl
  exact va_zald C.1 C.2.1 C.2.2.2.2.2.2.2.1.1 hP k 1 (ax_w_at (G := G) (σ := σ) hs) rfl hin hd (kk l dC dI G A p e R s m args below meth c C H locs ls hP hS hl)
theorem ax_iast {k n a : Nat} {i x : Int32} (hd : decode M.2.1 pc = .ok (.iastore, 1)) (hq : pc + 1 = q) (hs : sh[k]? = some (Sum.inr (false, n))) (hin : vp_in i n) (ha : i.toNatClampNeg = a) (kk : ax_W sh d M Q q lv st (ax_ui σ k a x)) : ax_W sh d M Q pc lv (ax_i x :: ax_i i :: ax_r k :: st) σ := by
  subst hq
  subst ha
  intro l dC dI G A p e R s m args below meth c C H locs ls hP hS hl
  refine va_iast C.1 C.2.1 C.2.2.2.2.2.2.2.1.1 hP (ax_D C.2.2.2.2.2.2.2.2.2.1 C.2.2.2.2.2.2.2.2.2.2.1) hS k 0 (ax_w_at (G := G) (σ := σ) hs) rfl hin hd (fun H1 locs1 hP1 _ hS1 => ?_)
  refine kk l dC dI G A p e R s m args below meth c C H1 locs1 ls ?_ hS1 hl
  rw [ax_w_ua hs]
  exact hP1
theorem ax_zast {k n a : Nat} {i x : Int32} (hd : decode M.2.1 pc = .ok (.bastore, 1)) (hq : pc + 1 = q) (hs : sh[k]? = some (Sum.inr (true, n))) (hin : vp_in i n) (ha : i.toNatClampNeg = a) (kk : ax_W sh d M Q q lv st (ax_ui σ k a (vp_nar .boolean x))) : ax_W sh d M Q pc lv (ax_i x :: ax_i i :: ax_r k :: st) σ := by
  subst hq
  subst ha
  intro l dC dI G A p e R s m args below meth c C H locs ls hP hS hl
  refine va_zast C.1 C.2.1 C.2.2.2.2.2.2.2.1.1 hP (ax_D C.2.2.2.2.2.2.2.2.2.1 C.2.2.2.2.2.2.2.2.2.2.1) hS k 1 (ax_w_at (G := G) (σ := σ) hs) rfl hin hd (fun H1 locs1 hP1 _ hS1 => ?_)
  refine kk l dC dI G A p e R s m args below meth c C H1 locs1 ls ?_ hS1 hl
  rw [ax_w_ua hs]
  exact hP1
theorem ax_alen {k n : Nat} {b : Bool} (hd : decode M.2.1 pc = .ok (.arraylength, 1)) (hq : pc + 1 = q) (hs : sh[k]? = some (Sum.inr (b, n))) (kk : ax_W sh d M Q q lv (ax_i (Int32.ofNat n) :: st) σ) : ax_W sh d M Q pc lv (ax_r k :: st) σ := by
  subst hq
  intro l dC dI G A p e R s m args below meth c C H locs ls hP hS hl
  cases b with
  | false => exact va_alen C.1 C.2.1 C.2.2.2.2.2.2.2.1.1 hP k 0 (ax_w_at (G := G) (σ := σ) hs) rfl rfl hd (kk l dC dI G A p e R s m args below meth c C H locs ls hP hS hl)
  | true => exact va_alen C.1 C.2.1 C.2.2.2.2.2.2.2.1.1 hP k 1 (ax_w_at (G := G) (σ := σ) hs) rfl rfl hd (kk l dC dI G A p e R s m args below meth c C H locs ls hP hS hl)
theorem ax_gets {t idx : Nat} {r : String × String × String × FieldType × List Int32} (hd : decode M.2.1 pc = .ok (.getstatic idx, 3)) (hq : pc + 3 = q) (hr : ax_st[t]? = some r) (hlk : Cond.fieldLink M.1.cls idx r.1 r.2.1 r.2.2.1 ∈ ax_U) (kk : ax_W sh d M Q q lv (ax_r (1000 + t) :: st) σ) : ax_W sh d M Q pc lv st σ := by
  subst hq
  intro l dC dI G A p e R s m args below meth c C H locs ls hP hS hl
  exact va_gets C.1 C.2.1 (C.2.2.2.2.2.2.2.1.2.1 t r hr).1 hS C.2.2.2.2.1 (C.2.2.2.2.2.2.1 _ hlk) (fun _ h9 => h9) hd (kk l dC dI G A p e R s m args below meth c C H locs ls hP hS hl)
theorem ax_tlen {t : Nat} {r : String × String × String × FieldType × List Int32} (hd : decode M.2.1 pc = .ok (.arraylength, 1)) (hq : pc + 1 = q) (hr : ax_st[t]? = some r) {v : Int32} (hv : Int32.ofNat r.2.2.2.2.length = v) (kk : ax_W sh d M Q q lv (ax_i v :: st) σ) : ax_W sh d M Q pc lv (ax_r (1000 + t) :: st) σ := by
  subst hq
  intro l dC dI G A p e R s m args below meth c C H locs ls hP hS hl
  exact va_tlen C.1 C.2.1 (C.2.2.2.2.2.2.2.1.2.1 t r hr).2 hS hv hd (kk l dC dI G A p e R s m args below meth c C H locs ls hP hS hl)
theorem ax_tald {t : Nat} {a b c' : String} {xs : List Int32} {i : Int32} (hd : decode M.2.1 pc = .ok (.iaload, 1)) (hq : pc + 1 = q) (hr : ax_st[t]? = some (a, b, c', .int, xs)) (hin : vp_in i xs.length) {v : Int32} (hv : xs.getD i.toNatClampNeg 0 = v) (kk : ax_W sh d M Q q lv (ax_i v :: st) σ) : ax_W sh d M Q pc lv (ax_i i :: ax_r (1000 + t) :: st) σ := by
  subst hq
  subst hv
  intro l dC dI G A p e R s m args below meth c C H locs ls hP hS hl
  exact va_ti C.1 C.2.1 (C.2.2.2.2.2.2.2.1.2.1 t _ hr).2 hS hin rfl hd (kk l dC dI G A p e R s m args below meth c C H locs ls hP hS hl)
theorem ax_tcld {t : Nat} {a b c' : String} {xs : List Int32} {i : Int32} (hd : decode M.2.1 pc = .ok (.caload, 1)) (hq : pc + 1 = q) (hr : ax_st[t]? = some (a, b, c', .char, xs)) (hin : vp_in i xs.length) {v : Int32} (hv : xs.getD i.toNatClampNeg 0 = v) (kk : ax_W sh d M Q q lv (ax_i v :: st) σ) : ax_W sh d M Q pc lv (ax_i i :: ax_r (1000 + t) :: st) σ := by
  subst hq
  subst hv
  intro l dC dI G A p e R s m args below meth c C H locs ls hP hS hl
  exact va_tc C.1 C.2.1 (C.2.2.2.2.2.2.2.1.2.1 t _ hr).2 hS hin rfl hd (kk l dC dI G A p e R s m args below meth c C H locs ls hP hS hl)

theorem ax_mmax {x y : Int32} {idx : Nat} (hd : decode M.2.1 pc = .ok (.invokestatic idx, 3)) (hq : pc + 3 = q) (h1 : Cond.methodLink M.1.cls idx Lib.Math.max.name ∈ ax_U) (hw : (st.map fun v => (ax_v (fun _ => 0) v).category).sum ≤ 8) (kk : ax_W sh (d + 1) M Q q lv (ax_i (if x < y then y else x) :: st) σ) : ax_W sh (d + 1) M Q pc lv (ax_i y :: ax_i x :: st) σ := by
  subst hq
  intro l dC dI G A p e R s m args below meth c C H locs ls hP hS hl
  have hfr := C.2.2.2.2.2.2.2.2.2.2.2
  refine va_mmax C.1 C.2.1 (C.2.2.1.trans hl.1.symm) C.2.2.2.2.1 (C.2.2.2.2.2.2.1 _ h1) (C.2.2.2.2.2.2.1 _ ax_mmmax1) (C.2.2.2.2.2.2.1 _ ax_mini) (C.2.2.2.2.2.2.1 _ ax_mmmax2) (by omega) ?_ (Nat.zero_le _) (Nat.zero_le _) hd (kk l dC dI G A p e R s m args below meth c C H locs ls hP hS hl)
  have := ax_words G.1 st
  omega
theorem ax_mmin {x y : Int32} {idx : Nat} (hd : decode M.2.1 pc = .ok (.invokestatic idx, 3)) (hq : pc + 3 = q) (h1 : Cond.methodLink M.1.cls idx Lib.Math.min.name ∈ ax_U) (hw : (st.map fun v => (ax_v (fun _ => 0) v).category).sum ≤ 8) (kk : ax_W sh (d + 1) M Q q lv (ax_i (if y < x then y else x) :: st) σ) : ax_W sh (d + 1) M Q pc lv (ax_i y :: ax_i x :: st) σ := by
  subst hq
  intro l dC dI G A p e R s m args below meth c C H locs ls hP hS hl
  have hfr := C.2.2.2.2.2.2.2.2.2.2.2
  refine va_mmin C.1 C.2.1 (C.2.2.1.trans hl.1.symm) C.2.2.2.2.1 (C.2.2.2.2.2.2.1 _ h1) (C.2.2.2.2.2.2.1 _ ax_mmmin1) (C.2.2.2.2.2.2.1 _ ax_mini) (C.2.2.2.2.2.2.1 _ ax_mmmin2) (by omega) ?_ (Nat.zero_le _) (Nat.zero_le _) hd (kk l dC dI G A p e R s m args below meth c C H locs ls hP hS hl)
  have := ax_words G.1 st
  omega
theorem ax_mabs {x : Int32} {idx : Nat} (hd : decode M.2.1 pc = .ok (.invokestatic idx, 3)) (hq : pc + 3 = q) (h1 : Cond.methodLink M.1.cls idx Lib.Math.abs.name ∈ ax_U) (hw : (st.map fun v => (ax_v (fun _ => 0) v).category).sum ≤ 8) (kk : ax_W sh (d + 1) M Q q lv (ax_i (if 0 ≤ x then x else 0 - x) :: st) σ) : ax_W sh (d + 1) M Q pc lv (ax_i x :: st) σ := by
  subst hq
  intro l dC dI G A p e R s m args below meth c C H locs ls hP hS hl
  have hfr := C.2.2.2.2.2.2.2.2.2.2.2
  refine va_mabs C.1 C.2.1 (C.2.2.1.trans hl.1.symm) C.2.2.2.2.1 (C.2.2.2.2.2.2.1 _ h1) (C.2.2.2.2.2.2.1 _ ax_mmabs1) (C.2.2.2.2.2.2.1 _ ax_mini) (C.2.2.2.2.2.2.1 _ ax_mmabs2) (by omega) ?_ (Nat.zero_le _) (Nat.zero_le _) hd (kk l dC dI G A p e R s m args below meth c C H locs ls hP hS hl)
  have := ax_words G.1 st
  omega
theorem ax_mmax_long {x y : Int64} {idx : Nat} (hd : decode M.2.1 pc = .ok (.invokestatic idx, 3)) (hq : pc + 3 = q) (h1 : Cond.methodLink M.1.cls idx Lib.MathLoose.max_long.x ∈ ax_U) (hw : (st.map fun v => (ax_v (fun _ => 0) v).category).sum ≤ 8) (kk : ax_W sh (d + 1) M Q q lv (ax_l (if y < x then x else y) :: st) σ) : ax_W sh (d + 1) M Q pc lv (ax_l y :: ax_l x :: st) σ := by
  subst hq
  intro l dC dI G A p e R s m args below meth c C H locs ls hP hS hl
  have hfr := C.2.2.2.2.2.2.2.2.2.2.2
  refine va_mmax_long C.1 C.2.1 (C.2.2.1.trans hl.1.symm) C.2.2.2.2.1 (C.2.2.2.2.2.2.1 _ h1) (C.2.2.2.2.2.2.1 _ ax_mmmax_long1) (C.2.2.2.2.2.2.1 _ ax_mini) (C.2.2.2.2.2.2.1 _ ax_mmmax_long2) (by omega) ?_ (Nat.zero_le _) (Nat.zero_le _) hd (kk l dC dI G A p e R s m args below meth c C H locs ls hP hS hl)
  have := ax_words G.1 st
  omega
theorem ax_mmin_long {x y : Int64} {idx : Nat} (hd : decode M.2.1 pc = .ok (.invokestatic idx, 3)) (hq : pc + 3 = q) (h1 : Cond.methodLink M.1.cls idx Lib.MathLoose.min_long.x ∈ ax_U) (hw : (st.map fun v => (ax_v (fun _ => 0) v).category).sum ≤ 8) (kk : ax_W sh (d + 1) M Q q lv (ax_l (if y < x then y else x) :: st) σ) : ax_W sh (d + 1) M Q pc lv (ax_l y :: ax_l x :: st) σ := by
  subst hq
  intro l dC dI G A p e R s m args below meth c C H locs ls hP hS hl
  have hfr := C.2.2.2.2.2.2.2.2.2.2.2
  refine va_mmin_long C.1 C.2.1 (C.2.2.1.trans hl.1.symm) C.2.2.2.2.1 (C.2.2.2.2.2.2.1 _ h1) (C.2.2.2.2.2.2.1 _ ax_mmmin_long1) (C.2.2.2.2.2.2.1 _ ax_mini) (C.2.2.2.2.2.2.1 _ ax_mmmin_long2) (by omega) ?_ (Nat.zero_le _) (Nat.zero_le _) hd (kk l dC dI G A p e R s m args below meth c C H locs ls hP hS hl)
  have := ax_words G.1 st
  omega
theorem ax_acopy {k0 k1 n0 n1 idx : Nat} {sp dp n : Int32} (hd : decode M.2.1 pc = .ok (.invokestatic idx, 3)) (hq : pc + 3 = q) (hlk : Cond.methodLink M.1.cls idx arraycopyName ∈ ax_U) (hs0 : sh[k0]? = some (Sum.inr (false, n0))) (hs1 : sh[k1]? = some (Sum.inr (false, n1))) (h1 : ¬ sp < 0) (h2 : ¬ dp < 0) (h3 : ¬ n < 0) (h4 : sp.toNatClampNeg + n.toNatClampNeg ≤ n0) (h5 : dp.toNatClampNeg + n.toNatClampNeg ≤ n1) (hw : (st.map fun v => (ax_v (fun _ => 0) v).category).sum ≤ 8)
    (kk : ax_W sh (d + 1) M Q q lv st (ax_uf σ k1 (va_cpy (σ.1 k0) (σ.1 k1) sp.toNatClampNeg dp.toNatClampNeg n.toNatClampNeg))) : ax_W sh (d + 1) M Q pc lv (ax_i n :: ax_i dp :: ax_r k1 :: ax_i sp :: ax_r k0 :: st) σ := by
  subst hq
  intro l dC dI G A p e R s m args below meth c C H locs ls hP hS hl
  have hfr := C.2.2.2.2.2.2.2.2.2.2.2
  refine va_copyi C.1 C.2.1 (C.2.2.1.trans hl.1.symm) C.2.2.2.2.1 (C.2.2.2.2.2.2.1 _ hlk) (C.2.2.2.2.2.2.1 _ ax_ac1) (C.2.2.2.2.2.2.1 _ ax_ac2) (C.2.2.2.2.2.2.1 _ ax_ac3) C.2.2.2.2.2.2.2.1.1 hP (ax_D C.2.2.2.2.2.2.2.2.2.1 C.2.2.2.2.2.2.2.2.2.2.1) hS k0 k1 0 0 (ax_w_at (G := G) (σ := σ) hs0) (ax_w_at (G := G) (σ := σ) hs1) rfl rfl rfl h1 h2 h3 h4 h5 (fun _ _ => rfl) (by omega) ?_ hd (fun H1 locs1 hP1 _ hS1 => ?_)
  · have := ax_words G.1 st
    have h9 : nativeFrameWords "java/lang/System" "arraycopy" 5 + 11 ≤ 50 := by decide +kernel
    omega
  · refine kk l dC dI G A p e R s m args below meth c C H1 locs1 ls ?_ hS1 hl
    rw [ax_w_uf hs1]
    exact hP1
/-- what a link to a method says -/
def ax_ml (own : String) (idx : Nat) (M' : ax_M) (n : Nat) : Prop := Cond.methodLink own idx M'.1 ∈ ax_U ∧ Cond.initialized M'.1.cls ∈ ax_U ∧ Cond.code M'.1 M'.2.1 M'.2.2.1 M'.2.2.2 ∈ ax_U ∧ (M'.1.cls ≠ "java/lang/invoke/MethodHandle" ∧ M'.1.cls ≠ "java/lang/invoke/VarHandle" ∧ (parseMethodDescriptor M'.1.desc).map (fun d => d.parameters.length) = some n) ∧ M'.2.2.1 ≤ 40
def ax_vl (own : String) (idx : Nat) (M' : ax_M) (n : Nat) : Prop := ax_ml own idx M' n ∧ Cond.instanceMethod M'.1 ∈ ax_U ∧ Cond.selects M'.1.cls M'.1 M'.1 ∈ ax_U
def ax_sl (own : String) (idx : Nat) (M' : ax_M) (n : Nat) : Prop := ax_ml own idx M' n ∧ Cond.static M'.1 ∈ ax_U
def ax_nlk (own : String) (idx : Nat) (M' : ax_M) (n : Nat) : Prop := Cond.methodLinkNest own idx M'.1 "CopperTies" ∈ ax_ne ∧ Cond.initialized M'.1.cls ∈ ax_U ∧ Cond.code M'.1 M'.2.1 M'.2.2.1 M'.2.2.2 ∈ ax_U ∧ (M'.1.cls ≠ "java/lang/invoke/MethodHandle" ∧ M'.1.cls ≠ "java/lang/invoke/VarHandle" ∧ (parseMethodDescriptor M'.1.desc).map (fun d => d.parameters.length) = some n) ∧ M'.2.2.1 ≤ 40 ∧ Cond.static M'.1 ∈ ax_U
theorem ax_gd {M' : ax_M} (h : Cond.code M'.1 M'.2.1 M'.2.2.1 M'.2.2.2 ∈ ax_U) : GoodIn ax_U (ax_ws M') := by
  refine goodIn_sub (fun w hw => ?_) ?_
  · rcases List.mem_cons.mp hw with rfl | hw
    · exact h
    · exact hw
  · rw [List.all_eq_true]
    intro w hw
    rcases List.mem_cons.mp hw with rfl | hw
    · exact List.all_eq_true.mp ax_Ug _ h
    · exact List.all_eq_true.mp ax_Ug _ hw
theorem ax_callB {R : Room} {s : State} {args : Array Value} {own : String} {idx n d : Nat} {M' : ax_M} (hts : ∀ w ∈ ax_U, w.before args s = true) (h : ax_ml own idx M' n) (hf : d + 1 ≤ R.frames) (hl : 64 * (d + 1) ≤ R.locals) : CallB R s args own idx M'.1 M'.2.1 M'.2.2.1 M'.2.2.2 (ax_ws M') (ax_rm d) 0 0 n :=
  callB_of n hts (ax_gd h.2.2.1) rfl rfl rfl (hts _ h.2.1) (hts _ h.1) h.2.2.2.1 ⟨hf, by have := h.2.2.2.2; show 8 + (M'.2.2.1 + 11) + 64 * d ≤ _; omega⟩
theorem ax_kk {Q' : Option ax_V → ax_S → Prop} {l : Launch} {dC : Nat → ClassId} {dI : Nat → Nat → Nat} {G : ax_G} {A : Nat → Prop} {p : Program} {e : Env} {R : Room} {s : State} {m : MethodId} {args : Array Value} {below : List Frame} {meth : Method} {c : Code} (C : ax_C sh (d + 1) M dC dI G A p R s m args meth c) {H : Heap} {locs : List Loc} {ls : Array Slot} (hS : va_S A s.heap H locs) (hl : lv_has ls M.2.2.1 (ax_p G.1 0 lv)) {st0 : List Value} {a : Array Value}
    (hr : va_Run p l e R s m args below meth c H locs 0 0 0 0 (F0 m pc ls st0) (st.map (ax_v G.1)) (ax_Q sh dC dI G (ax_A sh G H.size) Q' a) (ax_A sh G H.size))
    (kk : ∀ r σ', Q' r σ' → ax_W sh (d + 1) M Q (pc + 3) lv (r.toList ++ st) σ') : W p l e R s m args below meth c H locs 0 0 (MQ below (ax_Q sh dC dI G A Q) args s 0 0 A) (F0 m pc ls st0) := by
  have hAA : ∀ q, ax_A sh G H.size q → A q := fun q h => by
    rcases h with ⟨k, h1, rfl⟩ | h
    · exact C.2.2.2.2.2.2.2.2.2.2.1 k h1
    · exact C.2.2.2.2.2.2.2.2.1 q (Nat.le_trans hS.1 h)
  intro T hT X
  obtain ⟨v, st₀, t, T', L, h0, X', hL, e1, e2, ⟨⟨r, u, hv, hp, hb⟩, hz, hk⟩, stp⟩ := hr T hT X
  cases hv
  rw [h0] at hz hk
  obtain ⟨t2, a1, b1⟩ := kk r u hp l dC dI G A p e R s m args below meth c C T'.heap (locs ++ L) ls (by rw [e1]; exact hb) ⟨Nat.le_trans hS.1 (by rw [e1]; exact hz), fun q h1 h2 => by rw [e1, hk q (Nat.lt_of_lt_of_le h1 hS.1) (fun z => h2 (hAA q z))]; exact hS.2.1 q h1 h2, fun q hq => by
      rcases List.mem_append.mp hq with h | h
      · exact hS.2.2 q h
      · exact hAA _ (hL q h)⟩ hl T' rfl X'
  refine ⟨t2, stp t2 ?_, b1⟩
  have hst : (r.toList ++ st).map (ax_v G.1) = (r.map (ax_v G.1)).toList ++ st.map (ax_v G.1) := by cases r <;> simp
  rw [hst] at a1
  exact a1
theorem ax_pre {As : List ax_V} {dC : Nat → ClassId} {dI : Nat → Nat → Nat} {G : ax_G} {A : Nat → Prop} {p : Program} {R : Room} {s : State} {m : MethodId} {args : Array Value} {meth : Method} {c : Code} (C : ax_C sh d M dC dI G A p R s m args meth c) {H : Heap} {locs : List Loc} (hP : va_P (dC, dI) vwCl (ax_w sh G σ) H) (hS : va_S A s.heap H locs) : ∀ U : State, U.heap = H → s.WarmedH U.vm → ax_Pc sh dC dI G H.size As σ (As.map (ax_v G.1)).toArray U := by
  intro U hU hW
  have hAA : ∀ q, ax_A sh G H.size q → A q := fun q h => by
    rcases h with ⟨k, h1, rfl⟩ | h
    · exact C.2.2.2.2.2.2.2.2.2.2.1 k h1
    · exact C.2.2.2.2.2.2.2.2.1 q (Nat.le_trans hS.1 h)
  exact ⟨rfl, by rw [hU], by rw [hU]; exact hP, by rw [hU]; exact ax_K.to (sh := sh) C.2.2.2.2.2.2.2.1 hW (fun a h1 h2 => hS.2.1 a h1 h2) hAA, C.2.2.2.2.2.2.2.2.2.1⟩
/-- a call of a method of an object -/
theorem ax_callV {M' : ax_M} {As : List ax_V} {b idx n ci : Nat} {fs : List ax_F} {CC : String} {T : u_T} {N : Nat} {st0 : List ax_V} {Q' : Option ax_V → ax_S → Prop} (hd : decode M.2.1 pc = .ok (.invokevirtual idx, 3)) (hq : pc + 3 = q) (hv : ax_vl M.1.cls idx M' n) (hb : sh[b]? = some (Sum.inl (ci, fs))) (hc : vwCl[ci]? = some (CC, T, N)) (hcl : M'.1.cls = CC) (hn : As.length = n) (hst : st0 = As.reverse ++ ax_r b :: st) (hw : (st.map fun v => (ax_v (fun _ => 0) v).category).sum ≤ 8)
    (hM : ax_Ct sh d M' (ax_r b :: As) Q' σ) (kk : ∀ r σ', Q' r σ' → ax_W sh (d + 1) M Q q lv (r.toList ++ st) σ') : ax_W sh (d + 1) M Q pc lv st0 σ := by
  subst hq
  subst hst
  intro l dC dI G A p e R s m args below meth c C H locs ls hP hS hl
  have hfr := C.2.2.2.2.2.2.2.2.2.2.2
  have he := hP b _ (ax_w_at (G := G) (σ := σ) hb)
  refine ax_kk C hS hl (Q' := Q') (va_runV (As := As.map (ax_v G.1)) (C := M'.1.cls) ⟨C.1, C.2.1, C.2.2.1, C.2.2.2.2.1, C.2.2.2.2.2.2.1⟩ (hM d (Nat.le_refl d) l dC dI G H.size) ⟨ax_callB C.2.2.2.2.2.2.1 hv.1 hfr.1 hfr.2, C.2.2.2.2.2.2.1 _ hv.2.1, C.2.2.2.2.2.2.1 _ hv.2.2⟩ ⟨ax_blind, ?_, ax_pre (As := ax_r b :: As) C hP hS⟩ rfl (by simpa using hn) hl.1 ?_ (lv_room (by rw [ax_words]; exact hw)) hd ⟨Nat.zero_le _, Nat.zero_le _⟩) kk
  · rw [hcl]
    exact va_recv C.2.2.2.2.2.2.2.1.1 hP (ci := ci) (q0 := b) hc (ax_w_at (G := G) (σ := σ) hb)
  · simp [List.map_append, List.map_reverse, ax_v]
/-- a call of a static method -/
theorem ax_callS {M' : ax_M} {As : List ax_V} {idx n : Nat} {st0 : List ax_V} {Q' : Option ax_V → ax_S → Prop} (hd : decode M.2.1 pc = .ok (.invokestatic idx, 3)) (hq : pc + 3 = q) (hv : ax_sl M.1.cls idx M' n) (hn : As.length = n) (hst : st0 = As.reverse ++ st) (hw : (st.map fun v => (ax_v (fun _ => 0) v).category).sum ≤ 8)
    (hM : ax_Ct sh d M' As Q' σ) (kk : ∀ r σ', Q' r σ' → ax_W sh (d + 1) M Q q lv (r.toList ++ st) σ') : ax_W sh (d + 1) M Q pc lv st0 σ := by
  subst hq
  subst hst
  intro l dC dI G A p e R s m args below meth c C H locs ls hP hS hl
  have hfr := C.2.2.2.2.2.2.2.2.2.2.2
  refine ax_kk C hS hl (Q' := Q') (va_runS (As := As.map (ax_v G.1)) ⟨C.1, C.2.1, C.2.2.1, C.2.2.2.2.1, C.2.2.2.2.2.2.1⟩ (hM d (Nat.le_refl d) l dC dI G H.size) ⟨ax_callB C.2.2.2.2.2.2.1 hv.1 hfr.1 hfr.2, C.2.2.2.2.2.2.1 _ hv.2⟩ ⟨ax_blind, ax_pre (As := As) C hP hS⟩ rfl (by simpa using hn) hl.1 ?_ (lv_room (by rw [ax_words]; exact hw)) hd ⟨Nat.zero_le _, Nat.zero_le _⟩) kk
  simp [List.map_append, List.map_reverse]
/-- a call of a nest mate's private static method -/
theorem ax_callN {M' : ax_M} {As : List ax_V} {idx n : Nat} {st0 : List ax_V} {Q' : Option ax_V → ax_S → Prop} (hd : decode M.2.1 pc = .ok (.invokestatic idx, 3)) (hq : pc + 3 = q) (hv : ax_nlk M.1.cls idx M' n) (hn : As.length = n) (hst : st0 = As.reverse ++ st) (hw : (st.map fun v => (ax_v (fun _ => 0) v).category).sum ≤ 8)
    (hM : ax_Ct sh d M' As Q' σ) (kk : ∀ r σ', Q' r σ' → ax_W sh (d + 1) M Q q lv (r.toList ++ st) σ') : ax_W sh (d + 1) M Q pc lv st0 σ := by
  subst hq
  subst hst
  intro l dC dI G A p e R s m args below meth c C H locs ls hP hS hl
  have hfr := C.2.2.2.2.2.2.2.2.2.2.2
  obtain ⟨v1, v2, v3, v4, v5, v6⟩ := hv
  refine ax_kk C hS hl (Q' := Q') (va_runSN (host := "CopperTies") (As := As.map (ax_v G.1)) ⟨C.1, C.2.1, C.2.2.1, C.2.2.2.2.1, C.2.2.2.2.2.2.1⟩ (hM d (Nat.le_refl d) l dC dI G H.size) ⟨va_cnB n C.2.2.2.2.2.2.1 (ax_gd v3) rfl rfl rfl (C.2.2.2.2.2.2.2.1.2.2 _ v1) (C.2.2.2.2.2.2.1 _ v2) v4 ⟨hfr.1, by show 8 + (M'.2.2.1 + 11) + 64 * d ≤ _; omega⟩, C.2.2.2.2.2.2.1 _ v6, trivial⟩ ⟨ax_blind, ax_pre (As := As) C hP hS⟩ rfl (by simpa using hn) hl.1 ?_ (lv_room (by rw [ax_words]; exact hw)) hd ⟨Nat.zero_le _, Nat.zero_le _⟩) kk
  simp [List.map_append, List.map_reverse]

theorem ax_Ct.mono {M' : ax_M} {As : List ax_V} {Q1 Q2 : Option ax_V → ax_S → Prop} (h : ax_Ct sh d M' As Q1 σ) (hQ : ∀ r u, Q1 r u → Q2 r u) : ax_Ct sh d M' As Q2 σ := by
  intro d' hd l dC dI G sz p e ha hc hk s m args below hf hpre hPc hK
  obtain ⟨k, o, h1, h2, h3, h4, L, h5, h6⟩ := h d' hd l dC dI G sz p e ha hc hk s m args below hf hpre hPc hK
  exact ⟨k, o, h1, h2, h3, ax_Q.mono hQ h4, L, h5, h6⟩
theorem ax_cv {x y : Int32} (h : x = y) (k : ax_W sh d M Q pc lv (ax_i x :: st) σ) : ax_W sh d M Q pc lv (ax_i y :: st) σ := h ▸ k
theorem ax_if_eqB {c : Prop} [Decidable c] {off : Int} {tgt : Nat} (hd : decode M.2.1 pc = .ok (.ifCond .eq off, 3)) (ht : (pc : Int) + off = (tgt : Int)) (hq : pc + 3 = q) (kt : ¬ c → ax_W sh d M Q tgt lv st σ) (kf : c → ax_W sh d M Q q lv st σ) : ax_W sh d M Q pc lv (ax_i (if c then 1 else 0) :: st) σ := by
  refine ax_if_eq hd ht hq (fun h => kt (fun hc => ?_)) (fun h => kf ?_)
  · rw [if_pos hc] at h
    exact absurd h (by decide)
  · by_cases hc : c
    · exact hc
    · rw [if_neg hc] at h
      exact absurd rfl h
theorem ax_if_neB {c : Prop} [Decidable c] {off : Int} {tgt : Nat} (hd : decode M.2.1 pc = .ok (.ifCond .ne off, 3)) (ht : (pc : Int) + off = (tgt : Int)) (hq : pc + 3 = q) (kt : c → ax_W sh d M Q tgt lv st σ) (kf : ¬ c → ax_W sh d M Q q lv st σ) : ax_W sh d M Q pc lv (ax_i (if c then 1 else 0) :: st) σ := by
  refine ax_if_ne hd ht hq (fun h => kt ?_) (fun h => kf (fun hc => ?_))
  · by_cases hc : c
    · exact hc
    · rw [if_neg hc] at h
      exact absurd rfl h
  · rw [if_pos hc] at h
    exact h (by decide)
theorem ax_nb (c : Prop) [Decidable c] : narrow .boolean (.int (if c then 1 else 0)) = .int (if c then 1 else 0) := by split <;> rfl
theorem ax_fb (c : Prop) [Decidable c] : fits .boolean (.int (if c then 1 else 0)) = true := by split <;> rfl

end AY
