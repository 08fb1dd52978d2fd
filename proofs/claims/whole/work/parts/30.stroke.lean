/-! ===== what a stroke does, as numbers: wires by numbers below 17 (lv: live), houses below n; parts (house, part, the wire by which it came; 99: none) ===== -/
def sk_on (fr to : Nat → Nat) (lv : Nat → Bool) (h b w : Nat) : Bool := lv w && (!decide (w = b) && (decide (fr w = h) || decide (to w = h)))
def sk_cn (fr to : Nat → Nat) (lv : Nat → Bool) (h b : Nat) : Nat := fb_ct (sk_on fr to lv h b) 17
def sk_dg (fr to : Nat → Nat) (lv : Nat → Bool) (h : Nat) : Nat := fb_ct (fun w => lv w && (decide (fr w = h) || decide (to w = h))) 17
def sk_ot (fr to : Nat → Nat) (h w : Nat) : Nat := if fr w = h then to w else fr w
def sk_out (fr to sa : Nat → Nat) (lv : Nat → Bool) (h b e : Nat) : Nat → List (Nat × Nat × Nat)
  | 0 => []
  | w + 1 => sk_out fr to sa lv h b e w ++ (if sk_on fr to lv h b w && decide (sa w < e) then [(sk_ot fr to h w, e - sa w, w)] else [])
def sk_ws (fr to sa : Nat → Nat) (lv : Nat → Bool) (h b e : Nat) : Nat → Nat
  | 0 => 0
  | w + 1 => sk_ws fr to sa lv h b e w + (if sk_on fr to lv h b w then min e (sa w) else 0)
/-- how much goes over each wire -/
def sk_ea (kp : Nat → Nat → Nat → Nat) (h p c : Nat) : Nat := if c = 0 then 0 else (p - kp h p c) / c
def sk_go (fr to sa : Nat → Nat) (lv : Nat → Bool) (kp : Nat → Nat → Nat → Nat) : Nat → List (Nat × Nat × Nat) → (Nat → Bool) → (Nat → Nat) → Nat → (Nat → Nat) × Nat
  | 0, _, _, kt, ws => (kt, ws)
  | _ + 1, [], _, kt, ws => (kt, ws)
  | f + 1, (h, p, b) :: q, bn, kt, ws =>
    let c := if bn h then 0 else sk_cn fr to lv h b
    let e := sk_ea kp h p c
    sk_go fr to sa lv kp f (q ++ (if c = 0 then [] else sk_out fr to sa lv h b e 17)) (fun k => if k = h then true else bn k) (fun k => if k = h then kt k + (p - e * c) else kt k) (ws + (if c = 0 then 0 else sk_ws fr to sa lv h b e 17))
def sk_run (fr to sa : Nat → Nat) (lv : Nat → Bool) (kp : Nat → Nat → Nat → Nat) (h v : Nat) : (Nat → Nat) × Nat := sk_go fr to sa lv kp 36 [(h, v, 99)] (fun _ => false) (fun _ => 0) 0
/-- the parts together -/
def sk_qs : List (Nat × Nat × Nat) → Nat
  | [] => 0
  | x :: q => x.2.1 + sk_qs q
theorem sk_qs_app : ∀ a b : List (Nat × Nat × Nat), sk_qs (a ++ b) = sk_qs a + sk_qs b := by
  intro a b
  induction a with
  | nil => simp [sk_qs]
  | cons x a ih => simp only [List.cons_append, sk_qs, ih]; omega
/-- bounds of the belt, as a stroke needs them -/
def sk_ok (n : Nat) (fr to sa : Nat → Nat) (lv : Nat → Bool) (kp : Nat → Nat → Nat → Nat) : Prop :=
  n ≤ 8 ∧ (∀ w, lv w = true → w < 17 ∧ fr w < n ∧ to w < n ∧ fr w ≠ to w ∧ sa w ≤ 9) ∧ ∀ h p c, kp h p c ≤ p
def sk_iv (n : Nat) (fr to : Nat → Nat) (lv : Nat → Bool) (v i : Nat) (q : List (Nat × Nat × Nat)) (bn : Nat → Bool) (kt : Nat → Nat) (ws : Nat) : Prop :=
  (∀ x ∈ q, x.1 < n ∧ 1 ≤ x.2.1 ∧ (x.2.2 = 99 ∨ lv x.2.2 = true)) ∧ fb_sm kt n + sk_qs q + ws = v ∧ i + q.length ≤ 1 + fb_sm (fun h => if bn h then sk_dg fr to lv h else 0) n
theorem sk_cn_le {fr to : Nat → Nat} {lv : Nat → Bool} {h b : Nat} : sk_cn fr to lv h b ≤ sk_dg fr to lv h := by
  refine fb_ct_sub (fun k _ hk => ?_)
  simp only [sk_on, Bool.and_eq_true] at hk
  simp only [Bool.and_eq_true]
  exact ⟨hk.1, hk.2.2⟩
theorem sk_out_len {fr to sa : Nat → Nat} {lv : Nat → Bool} {h b e : Nat} : ∀ w, (sk_out fr to sa lv h b e w).length ≤ fb_ct (sk_on fr to lv h b) w := by
  intro w
  induction w with
  | zero => simp [sk_out]
  | succ w ih =>
    simp only [sk_out, List.length_append]
    cases hon : sk_on fr to lv h b w
    · have : fb_ct (sk_on fr to lv h b) (w + 1) = fb_ct (sk_on fr to lv h b) w := by simp [fb_ct, hon]
      rw [this]; simpa using ih
    · have : fb_ct (sk_on fr to lv h b) (w + 1) = fb_ct (sk_on fr to lv h b) w + 1 := by simp [fb_ct, hon]
      rw [this]
      by_cases hs : sa w < e
      · simp [hs]; exact ih
      · simp [hs]; omega
theorem sk_out_mem {fr to sa : Nat → Nat} {lv : Nat → Bool} {h b e : Nat} {x : Nat × Nat × Nat} : ∀ w, x ∈ sk_out fr to sa lv h b e w → sk_on fr to lv h b x.2.2 = true ∧ sa x.2.2 < e ∧ x.1 = sk_ot fr to h x.2.2 ∧ x.2.1 = e - sa x.2.2 := by
  intro w
  induction w with
  | zero => intro hx; simp [sk_out] at hx
  | succ w ih =>
    intro hx
    simp only [sk_out, List.mem_append] at hx
    rcases hx with hx | hx
    · exact ih hx
    · split at hx
      · rename_i hc
        simp only [Bool.and_eq_true, decide_eq_true_eq] at hc
        simp only [List.mem_singleton] at hx
        subst hx
        exact ⟨hc.1, hc.2, rfl, rfl⟩
      · simp at hx
theorem sk_out_sum {fr to sa : Nat → Nat} {lv : Nat → Bool} {h b e : Nat} : ∀ w, sk_qs (sk_out fr to sa lv h b e w) + sk_ws fr to sa lv h b e w = e * fb_ct (sk_on fr to lv h b) w := by
  intro w
  induction w with
  | zero => simp [sk_out, sk_ws, sk_qs, fb_ct]
  | succ w ih =>
    simp only [sk_out, sk_ws, sk_qs_app]
    cases hon : sk_on fr to lv h b w
    · have : fb_ct (sk_on fr to lv h b) (w + 1) = fb_ct (sk_on fr to lv h b) w := by simp [fb_ct, hon]
      rw [this]; simp [sk_qs]; exact ih
    · have : fb_ct (sk_on fr to lv h b) (w + 1) = fb_ct (sk_on fr to lv h b) w + 1 := by simp [fb_ct, hon]
      rw [this, Nat.mul_add]
      by_cases hs : sa w < e
      · simp [hs, sk_qs]; omega
      · simp [hs, sk_qs]; omega
/-- one house more has been come to -/
theorem sk_bn_up (f : Nat → Nat) (bn : Nat → Bool) {h n : Nat} (hh : h < n) (hb : bn h = false) : fb_sm (fun k => if (if k = h then true else bn k) then f k else 0) n = fb_sm (fun k => if bn k then f k else 0) n + f h := by
  have h1 := fb_sm_upd (fun k => if bn k then f k else 0) (f h) hh
  have h2 : (fun k => if k = h then f h else (if bn k then f k else 0)) = (fun k => if (if k = h then true else bn k) then f k else 0) := by
    funext k
    by_cases e : k = h
    · subst e; simp
    · simp [e]
  rw [h2] at h1
  simp only [hb, Bool.false_eq_true, if_false, Nat.add_zero] at h1
  exact h1
theorem sk_step {n : Nat} {fr to sa : Nat → Nat} {lv : Nat → Bool} {kp : Nat → Nat → Nat → Nat} {v i h p b ws : Nat} {q : List (Nat × Nat × Nat)} {bn : Nat → Bool} {kt : Nat → Nat}
    (hok : sk_ok n fr to sa lv kp) (hiv : sk_iv n fr to lv v i ((h, p, b) :: q) bn kt ws) {c e : Nat} (hc : c = if bn h then 0 else sk_cn fr to lv h b) (he : e = sk_ea kp h p c) :
    sk_iv n fr to lv v (i + 1) (q ++ (if c = 0 then [] else sk_out fr to sa lv h b e 17)) (fun k => if k = h then true else bn k) (fun k => if k = h then kt k + (p - e * c) else kt k) (ws + (if c = 0 then 0 else sk_ws fr to sa lv h b e 17)) ∧ e * c ≤ p ∧ kt h + p + ws ≤ v := by
  obtain ⟨h1, h2, h3⟩ := hiv
  have hh : h < n := (h1 (h, p, b) List.mem_cons_self).1
  have hp1 : 1 ≤ p := (h1 (h, p, b) List.mem_cons_self).2.1
  have hqs : sk_qs ((h, p, b) :: q) = p + sk_qs q := rfl
  rw [hqs] at h2
  have hlen : ((h, p, b) :: q).length = q.length + 1 := rfl
  rw [hlen] at h3
  have hec : e * c ≤ p := by
    rw [he]
    unfold sk_ea
    by_cases h0 : c = 0
    · simp [h0]
    · rw [if_neg h0]
      exact Nat.le_trans (Nat.div_mul_le_self _ _) (Nat.sub_le _ _)
  have hkt := fb_sm_upd kt (kt h + (p - e * c)) hh
  have hfun : (fun k => if k = h then kt h + (p - e * c) else kt k) = (fun k => if k = h then kt k + (p - e * c) else kt k) := by
    funext k
    by_cases e1 : k = h
    · subst e1; simp
    · simp [e1]
  rw [hfun] at hkt
  have hpart := fb_sm_part kt hh
  refine ⟨⟨?_, ?_, ?_⟩, hec, by omega⟩
  · intro x hx
    rcases List.mem_append.mp hx with hx | hx
    · exact h1 x (List.mem_cons_of_mem _ hx)
    · split at hx
      · simp at hx
      · obtain ⟨g1, g2, g3, g4⟩ := sk_out_mem 17 hx
        simp only [sk_on, Bool.and_eq_true] at g1
        obtain ⟨-, hw1, hw2, -, -⟩ := hok.2.1 x.2.2 g1.1
        refine ⟨?_, by omega, Or.inr g1.1⟩
        rw [g3, sk_ot]
        split <;> assumption
  · rw [sk_qs_app]
    by_cases h0 : c = 0
    · simp only [h0, if_true, sk_qs, Nat.mul_zero, Nat.sub_zero, Nat.add_zero] at hkt ⊢
      omega
    · rw [if_neg h0, if_neg h0]
      have hs := sk_out_sum (fr := fr) (to := to) (sa := sa) (lv := lv) (h := h) (b := b) (e := e) 17
      have hbn : bn h = false := by
        cases hz : bn h
        · rfl
        · rw [hz] at hc; simp at hc; exact absurd hc h0
      have hcc : c = fb_ct (sk_on fr to lv h b) 17 := by rw [hc, hbn]; simp [sk_cn]
      rw [← hcc] at hs
      omega
  · rw [List.length_append]
    by_cases hbn : bn h = true
    · have h0 : c = 0 := by rw [hc, hbn]; rfl
      rw [if_pos h0]
      have hsame : (fun k => if (if k = h then true else bn k) then sk_dg fr to lv k else 0) = (fun k => if bn k then sk_dg fr to lv k else 0) := by
        funext k
        by_cases e1 : k = h
        · subst e1; simp [hbn]
        · simp [e1]
      rw [hsame]
      simp only [List.length_nil]
      omega
    · have hbn' : bn h = false := by cases hz : bn h <;> simp_all
      rw [sk_bn_up (sk_dg fr to lv) bn hh hbn']
      have hcn : sk_cn fr to lv h b ≤ sk_dg fr to lv h := sk_cn_le
      by_cases h0 : c = 0
      · rw [if_pos h0]; simp only [List.length_nil]; omega
      · rw [if_neg h0]
        have hl := sk_out_len (fr := fr) (to := to) (sa := sa) (lv := lv) (h := h) (b := b) (e := e) 17
        have : fb_ct (sk_on fr to lv h b) 17 = sk_cn fr to lv h b := rfl
        omega
