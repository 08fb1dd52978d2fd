/-! ===== how many bits ===== -/
def bc_n (k : Nat) : Nat := fb_ct (fun i => k.testBit i) 17
def bc_u (a s : Int32) : Int32 := ((a.toUInt32 >>> (s.toUInt32 &&& Int32.toUInt32 31)).toInt32)
def bc_1 (a : Int32) : Int32 := a - (bc_u a 1 &&& (1431655765 : Int32))
def bc_2 (a : Int32) : Int32 := (a &&& (858993459 : Int32)) + (bc_u a 2 &&& (858993459 : Int32))
def bc_3 (a : Int32) : Int32 := (a + bc_u a 4) &&& (252645135 : Int32)
def bc_4 (a : Int32) : Int32 := a + bc_u a 8
def bc_5 (a : Int32) : Int32 := a + bc_u a 16
theorem bc_eq (a : Int32) : v_J6_bitCount_0f7a4 a = bc_5 (bc_4 (bc_3 (bc_2 (bc_1 a)))) &&& 63 := rfl
theorem bc_uN (n : Nat) (s k : Nat) (hn : n < 2 ^ 32) (hs : (((nI s).toUInt32 &&& Int32.toUInt32 31).toBitVec % 32).toNat = k) : bc_u (nI n) (nI s) = nI (n / 2 ^ k) := pk_ushrN hn (nI s) k hs
def bc_f1 (k : Nat) : Nat := k - (k / 2 &&& 1431655765)
def bc_f2 (k : Nat) : Nat := (k &&& 858993459) + (k / 4 &&& 858993459)
def bc_f3 (k : Nat) : Nat := (k + k / 16) &&& 252645135
def bc_f4 (k : Nat) : Nat := k + k / 256
def bc_f5 (k : Nat) : Nat := k + k / 65536
def bc_f (k : Nat) : Nat := bc_f5 (bc_f4 (bc_f3 (bc_f2 (bc_f1 k)))) &&& 63
theorem bc_N1 {k : Nat} (h : k < 2 ^ 31) : bc_1 (nI k) = nI (bc_f1 k) := by
  unfold bc_1 bc_f1
  rw [show (1 : Int32) = nI 1 from rfl, bc_uN k 1 1 (by omega) (by decide), show (1431655765 : Int32) = nI 1431655765 from rfl, fa_and]
  exact pk_sub (Nat.le_trans Nat.and_le_left (by omega))
theorem bc_N2 {k : Nat} (h : k < 2 ^ 31) : bc_2 (nI k) = nI (bc_f2 k) := by
  unfold bc_2 bc_f2
  rw [show (2 : Int32) = nI 2 from rfl, bc_uN k 2 2 (by omega) (by decide), show (858993459 : Int32) = nI 858993459 from rfl, fa_and, fa_and]
  exact nI_add _ _
theorem bc_N3 {k : Nat} (h : k < 2 ^ 31) : bc_3 (nI k) = nI (bc_f3 k) := by
  unfold bc_3 bc_f3
  rw [show (4 : Int32) = nI 4 from rfl, bc_uN k 4 4 (by omega) (by decide), show (252645135 : Int32) = nI 252645135 from rfl, nI_add, fa_and]
theorem bc_N4 {k : Nat} (h : k < 2 ^ 31) : bc_4 (nI k) = nI (bc_f4 k) := by
  unfold bc_4 bc_f4
  rw [show (8 : Int32) = nI 8 from rfl, bc_uN k 8 8 (by omega) (by decide), nI_add]
theorem bc_N5 {k : Nat} (h : k < 2 ^ 31) : bc_5 (nI k) = nI (bc_f5 k) := by
  unfold bc_5 bc_f5
  rw [show (16 : Int32) = nI 16 from rfl, bc_uN k 16 16 (by omega) (by decide), nI_add]
theorem bc_N {k : Nat} (h : k < 2 ^ 20) : v_J6_bitCount_0f7a4 (nI k) = nI (bc_f k) := by
  rw [bc_eq]
  have h1 : bc_f1 k < 2 ^ 20 := Nat.lt_of_le_of_lt (Nat.sub_le _ _) h
  have h2 : bc_f2 (bc_f1 k) < 2 ^ 22 := by
    have a1 : (bc_f1 k &&& 858993459) ≤ bc_f1 k := Nat.and_le_left
    have a2 : (bc_f1 k / 4 &&& 858993459) ≤ bc_f1 k / 4 := Nat.and_le_left
    unfold bc_f2; omega
  have h3 : bc_f3 (bc_f2 (bc_f1 k)) < 2 ^ 24 := by
    have a1 : bc_f3 (bc_f2 (bc_f1 k)) ≤ bc_f2 (bc_f1 k) + bc_f2 (bc_f1 k) / 16 := Nat.and_le_left
    omega
  have h4 : bc_f4 (bc_f3 (bc_f2 (bc_f1 k))) < 2 ^ 26 := by unfold bc_f4; omega
  rw [bc_N1 (by omega), bc_N2 (by omega), bc_N3 (by omega), bc_N4 (by omega), bc_N5 (by omega), show (63 : Int32) = nI 63 from rfl, fa_and]
  rfl
def bc_g (k : Nat) : Nat := k % 2 + k / 2 % 2 + k / 4 % 2 + k / 8 % 2 + k / 16 % 2 + k / 32 % 2 + k / 64 % 2 + k / 128 % 2 + k / 256 % 2 + k / 512 % 2 + k / 1024 % 2 + k / 2048 % 2 + k / 4096 % 2 + k / 8192 % 2 + k / 16384 % 2 + k / 32768 % 2 + k / 65536 % 2
theorem bc_bit (k i : Nat) : (if k.testBit i then 1 else 0) = k / 2 ^ i % 2 := by
  rw [Nat.testBit_eq_decide_div_mod_eq]
  have : k / 2 ^ i % 2 < 2 := Nat.mod_lt _ (by decide)
  by_cases h : k / 2 ^ i % 2 = 1
  · simp [h]
  · simp [h]; omega
theorem bc_gn (k : Nat) : bc_n k = bc_g k := by
  have step : ∀ (p : Nat → Bool) (n : Nat), fb_ct p (n + 1) = fb_ct p n + (if p n then 1 else 0) := fun p n => by
    cases h : p n <;> simp [fb_ct, h]
  unfold bc_n bc_g
  simp only [step, bc_bit, fb_ct]
  simp
def bc_ck (lo : Nat) : Nat → Bool
  | 0 => true
  | n + 1 => bc_ck lo n && (bc_f (lo + n) == bc_g (lo + n))
theorem bc_ck_use {lo : Nat} : ∀ {n : Nat}, bc_ck lo n = true → ∀ a, a < n → bc_f (lo + a) = bc_g (lo + a) := by
  intro n
  induction n with
  | zero => intro _ a h; omega
  | succ n ih =>
    intro h a ha
    simp only [bc_ck, Bool.and_eq_true, beq_iff_eq] at h
    by_cases e : a = n
    · subst e; exact h.2
    · exact ih h.1 a (by omega)

theorem bc_a0 : bc_ck 0 2048 = true := by decide +kernel
theorem bc_a1 : bc_ck 2048 2048 = true := by decide +kernel
theorem bc_a2 : bc_ck 4096 2048 = true := by decide +kernel
theorem bc_a3 : bc_ck 6144 2048 = true := by decide +kernel
theorem bc_a4 : bc_ck 8192 2048 = true := by decide +kernel
theorem bc_a5 : bc_ck 10240 2048 = true := by decide +kernel
theorem bc_a6 : bc_ck 12288 2048 = true := by decide +kernel
theorem bc_a7 : bc_ck 14336 2048 = true := by decide +kernel
theorem bc_a8 : bc_ck 16384 2048 = true := by decide +kernel
theorem bc_a9 : bc_ck 18432 2048 = true := by decide +kernel
theorem bc_a10 : bc_ck 20480 2048 = true := by decide +kernel
theorem bc_a11 : bc_ck 22528 2048 = true := by decide +kernel
theorem bc_a12 : bc_ck 24576 2048 = true := by decide +kernel
theorem bc_a13 : bc_ck 26624 2048 = true := by decide +kernel
theorem bc_a14 : bc_ck 28672 2048 = true := by decide +kernel
theorem bc_a15 : bc_ck 30720 2048 = true := by decide +kernel
theorem bc_a16 : bc_ck 32768 2048 = true := by decide +kernel
theorem bc_a17 : bc_ck 34816 2048 = true := by decide +kernel
theorem bc_a18 : bc_ck 36864 2048 = true := by decide +kernel
theorem bc_a19 : bc_ck 38912 2048 = true := by decide +kernel
theorem bc_a20 : bc_ck 40960 2048 = true := by decide +kernel
theorem bc_a21 : bc_ck 43008 2048 = true := by decide +kernel
theorem bc_a22 : bc_ck 45056 2048 = true := by decide +kernel
theorem bc_a23 : bc_ck 47104 2048 = true := by decide +kernel
theorem bc_a24 : bc_ck 49152 2048 = true := by decide +kernel
theorem bc_a25 : bc_ck 51200 2048 = true := by decide +kernel
theorem bc_a26 : bc_ck 53248 2048 = true := by decide +kernel
theorem bc_a27 : bc_ck 55296 2048 = true := by decide +kernel
theorem bc_a28 : bc_ck 57344 2048 = true := by decide +kernel
theorem bc_a29 : bc_ck 59392 2048 = true := by decide +kernel
theorem bc_a30 : bc_ck 61440 2048 = true := by decide +kernel
theorem bc_a31 : bc_ck 63488 2048 = true := by decide +kernel
theorem bc_a32 : bc_ck 65536 2048 = true := by decide +kernel
theorem bc_a33 : bc_ck 67584 2048 = true := by decide +kernel
theorem bc_a34 : bc_ck 69632 2048 = true := by decide +kernel
theorem bc_a35 : bc_ck 71680 2048 = true := by decide +kernel
theorem bc_a36 : bc_ck 73728 2048 = true := by decide +kernel
theorem bc_a37 : bc_ck 75776 2048 = true := by decide +kernel
theorem bc_a38 : bc_ck 77824 2048 = true := by decide +kernel
theorem bc_a39 : bc_ck 79872 2048 = true := by decide +kernel
theorem bc_a40 : bc_ck 81920 2048 = true := by decide +kernel
theorem bc_a41 : bc_ck 83968 2048 = true := by decide +kernel
theorem bc_a42 : bc_ck 86016 2048 = true := by decide +kernel
theorem bc_a43 : bc_ck 88064 2048 = true := by decide +kernel
theorem bc_a44 : bc_ck 90112 2048 = true := by decide +kernel
theorem bc_a45 : bc_ck 92160 2048 = true := by decide +kernel
theorem bc_a46 : bc_ck 94208 2048 = true := by decide +kernel
theorem bc_a47 : bc_ck 96256 2048 = true := by decide +kernel
theorem bc_a48 : bc_ck 98304 2048 = true := by decide +kernel
theorem bc_a49 : bc_ck 100352 2048 = true := by decide +kernel
theorem bc_a50 : bc_ck 102400 2048 = true := by decide +kernel
theorem bc_a51 : bc_ck 104448 2048 = true := by decide +kernel
theorem bc_a52 : bc_ck 106496 2048 = true := by decide +kernel
theorem bc_a53 : bc_ck 108544 2048 = true := by decide +kernel
theorem bc_a54 : bc_ck 110592 2048 = true := by decide +kernel
theorem bc_a55 : bc_ck 112640 2048 = true := by decide +kernel
theorem bc_a56 : bc_ck 114688 2048 = true := by decide +kernel
theorem bc_a57 : bc_ck 116736 2048 = true := by decide +kernel
theorem bc_a58 : bc_ck 118784 2048 = true := by decide +kernel
theorem bc_a59 : bc_ck 120832 2048 = true := by decide +kernel
theorem bc_a60 : bc_ck 122880 2048 = true := by decide +kernel
theorem bc_a61 : bc_ck 124928 2048 = true := by decide +kernel
theorem bc_a62 : bc_ck 126976 2048 = true := by decide +kernel
theorem bc_a63 : bc_ck 129024 2048 = true := by decide +kernel
theorem bc_all : ∀ j, j < 64 → ∀ a, a < 2048 → bc_f (2048 * j + a) = bc_n (2048 * j + a) := by
  intro j hj a ha
  rw [bc_gn]
  match j, hj with
  | 0, _ => exact bc_ck_use bc_a0 a ha
  | 1, _ => exact bc_ck_use bc_a1 a ha
  | 2, _ => exact bc_ck_use bc_a2 a ha
  | 3, _ => exact bc_ck_use bc_a3 a ha
  | 4, _ => exact bc_ck_use bc_a4 a ha
  | 5, _ => exact bc_ck_use bc_a5 a ha
  | 6, _ => exact bc_ck_use bc_a6 a ha
  | 7, _ => exact bc_ck_use bc_a7 a ha
  | 8, _ => exact bc_ck_use bc_a8 a ha
  | 9, _ => exact bc_ck_use bc_a9 a ha
  | 10, _ => exact bc_ck_use bc_a10 a ha
  | 11, _ => exact bc_ck_use bc_a11 a ha
  | 12, _ => exact bc_ck_use bc_a12 a ha
  | 13, _ => exact bc_ck_use bc_a13 a ha
  | 14, _ => exact bc_ck_use bc_a14 a ha
  | 15, _ => exact bc_ck_use bc_a15 a ha
  | 16, _ => exact bc_ck_use bc_a16 a ha
  | 17, _ => exact bc_ck_use bc_a17 a ha
  | 18, _ => exact bc_ck_use bc_a18 a ha
  | 19, _ => exact bc_ck_use bc_a19 a ha
  | 20, _ => exact bc_ck_use bc_a20 a ha
  | 21, _ => exact bc_ck_use bc_a21 a ha
  | 22, _ => exact bc_ck_use bc_a22 a ha
  | 23, _ => exact bc_ck_use bc_a23 a ha
  | 24, _ => exact bc_ck_use bc_a24 a ha
  | 25, _ => exact bc_ck_use bc_a25 a ha
  | 26, _ => exact bc_ck_use bc_a26 a ha
  | 27, _ => exact bc_ck_use bc_a27 a ha
  | 28, _ => exact bc_ck_use bc_a28 a ha
  | 29, _ => exact bc_ck_use bc_a29 a ha
  | 30, _ => exact bc_ck_use bc_a30 a ha
  | 31, _ => exact bc_ck_use bc_a31 a ha
  | 32, _ => exact bc_ck_use bc_a32 a ha
  | 33, _ => exact bc_ck_use bc_a33 a ha
  | 34, _ => exact bc_ck_use bc_a34 a ha
  | 35, _ => exact bc_ck_use bc_a35 a ha
  | 36, _ => exact bc_ck_use bc_a36 a ha
  | 37, _ => exact bc_ck_use bc_a37 a ha
  | 38, _ => exact bc_ck_use bc_a38 a ha
  | 39, _ => exact bc_ck_use bc_a39 a ha
  | 40, _ => exact bc_ck_use bc_a40 a ha
  | 41, _ => exact bc_ck_use bc_a41 a ha
  | 42, _ => exact bc_ck_use bc_a42 a ha
  | 43, _ => exact bc_ck_use bc_a43 a ha
  | 44, _ => exact bc_ck_use bc_a44 a ha
  | 45, _ => exact bc_ck_use bc_a45 a ha
  | 46, _ => exact bc_ck_use bc_a46 a ha
  | 47, _ => exact bc_ck_use bc_a47 a ha
  | 48, _ => exact bc_ck_use bc_a48 a ha
  | 49, _ => exact bc_ck_use bc_a49 a ha
  | 50, _ => exact bc_ck_use bc_a50 a ha
  | 51, _ => exact bc_ck_use bc_a51 a ha
  | 52, _ => exact bc_ck_use bc_a52 a ha
  | 53, _ => exact bc_ck_use bc_a53 a ha
  | 54, _ => exact bc_ck_use bc_a54 a ha
  | 55, _ => exact bc_ck_use bc_a55 a ha
  | 56, _ => exact bc_ck_use bc_a56 a ha
  | 57, _ => exact bc_ck_use bc_a57 a ha
  | 58, _ => exact bc_ck_use bc_a58 a ha
  | 59, _ => exact bc_ck_use bc_a59 a ha
  | 60, _ => exact bc_ck_use bc_a60 a ha
  | 61, _ => exact bc_ck_use bc_a61 a ha
  | 62, _ => exact bc_ck_use bc_a62 a ha
  | 63, _ => exact bc_ck_use bc_a63 a ha
  | j + 64, hj => exact absurd hj (by omega)
theorem bc_cnt {k : Nat} (h : k < 131072) : v_J6_bitCount_0f7a4 (nI k) = nI (bc_n k) := by
  rw [bc_N (by omega)]
  have := bc_all (k / 2048) (by omega) (k % 2048) (by omega)
  rw [show 2048 * (k / 2048) + k % 2048 = k by omega] at this
  rw [this]
