/-! ===== how many bits ===== -/
def bc_n (k : Nat) : Nat := fb_ct (fun i => k.testBit i) 17
def bc_u (a s : Int32) : Int32 := ((a.toUInt32 >>> (s.toUInt32 &&& Int32.toUInt32 31)).toInt32)
def bc_1 (a : Int32) : Int32 := a - (bc_u a 1 &&& (1431655765 : Int32))
def bc_2 (a : Int32) : Int32 := (a &&& (858993459 : Int32)) + (bc_u a 2 &&& (858993459 : Int32))
def bc_3 (a : Int32) : Int32 := (a + bc_u a 4) &&& (252645135 : Int32)
def bc_4 (a : Int32) : Int32 := a + bc_u a 8
def bc_5 (a : Int32) : Int32 := a + bc_u a 16
theorem bc_eq (a : Int32) : v_J6_bitCount_0f7a4 a = bc_5 (bc_4 (bc_3 (bc_2 (bc_1 a)))) &&& 63 := rfl
theorem bc_uN (n : Nat) (s k : Nat) (hn : n < 2 ^ 32) (hs : (((nI s).toUInt32 &&& Int32.toUInt32 31).toBitVec % 32).toNat = k) : bc_u (nI n) (nI s) = nI (n / 2 ^ k) := pk_ushrN hn (nI s) k hs
def bc_f1 (k : Nat) : Nat := k - (k / 2 &&& 1431655765)
def bc_f2 (k : Nat) : Nat := (k &&& 858993459) + (k / 4 &&& 858993459)
def bc_f3 (k : Nat) : Nat := (k + k / 16) &&& 252645135
def bc_f4 (k : Nat) : Nat := k + k / 256
def bc_f5 (k : Nat) : Nat := k + k / 65536
def bc_f (k : Nat) : Nat := bc_f5 (bc_f4 (bc_f3 (bc_f2 (bc_f1 k)))) &&& 63
theorem bc_N1 {k : Nat} (h : k < 2 ^ 31) : bc_1 (nI k) = nI (bc_f1 k) := by
  unfold bc_1 bc_f1
  rw [show (1 : Int32) = nI 1 from rfl, bc_uN k 1 1 (by omega) (by decide), show (1431655765 : Int32) = nI 1431655765 from rfl, fa_and]
  exact pk_sub (Nat.le_trans Nat.and_le_left (by omega))
theorem bc_N2 {k : Nat} (h : k < 2 ^ 31) : bc_2 (nI k) = nI (bc_f2 k) := by
  unfold bc_2 bc_f2
  rw [show (2 : Int32) = nI 2 from rfl, bc_uN k 2 2 (by omega) (by decide), show (858993459 : Int32) = nI 858993459 from rfl, fa_and, fa_and]
  exact nI_add _ _
theorem bc_N3 {k : Nat} (h : k < 2 ^ 31) : bc_3 (nI k) = nI (bc_f3 k) := by
  unfold bc_3 bc_f3
  rw [show (4 : Int32) = nI 4 from rfl, bc_uN k 4 4 (by omega) (by decide), show (252645135 : Int32) = nI 252645135 from rfl, nI_add, fa_and]
theorem bc_N4 {k : Nat} (h : k < 2 ^ 31) : bc_4 (nI k) = nI (bc_f4 k) := by
  unfold bc_4 bc_f4
  rw [show (8 : Int32) = nI 8 from rfl, bc_uN k 8 8 (by omega) (by decide), nI_add]
theorem bc_N5 {k : Nat} (h : k < 2 ^ 31) : bc_5 (nI k) = nI (bc_f5 k) := by
  unfold bc_5 bc_f5
  rw [show (16 : Int32) = nI 16 from rfl, bc_uN k 16 16 (by omega) (by decide), nI_add]
theorem bc_N {k : Nat} (h : k < 2 ^ 20) : v_J6_bitCount_0f7a4 (nI k) = nI (bc_f k) := by
  rw [bc_eq]
  have h1 : bc_f1 k < 2 ^ 20 := Nat.lt_of_le_of_lt (Nat.sub_le _ _) h
  have h2 : bc_f2 (bc_f1 k) < 2 ^ 22 := by
    have a1 : (bc_f1 k &&& 858993459) ≤ bc_f1 k := Nat.and_le_left
    have a2 : (bc_f1 k / 4 &&& 858993459) ≤ bc_f1 k / 4 := Nat.and_le_left
    unfold bc_f2; omega
  have h3 : bc_f3 (bc_f2 (bc_f1 k)) < 2 ^ 24 := by
    have a1 : bc_f3 (bc_f2 (bc_f1 k)) ≤ bc_f2 (bc_f1 k) + bc_f2 (bc_f1 k) / 16 := Nat.and_le_left
    omega
  have h4 : bc_f4 (bc_f3 (bc_f2 (bc_f1 k))) < 2 ^ 26 := by unfold bc_f4; omega
  rw [bc_N1 (by omega), bc_N2 (by omega), bc_N3 (by omega), bc_N4 (by omega), bc_N5 (by omega), show (63 : Int32) = nI 63 from rfl, fa_and]
  rfl
theorem bc_a0 : ∀ b, b < 64 → ∀ a, a < 64 → bc_f (0 + 64 * b + a) = bc_n (0 + 64 * b + a) := by decide +kernel
theorem bc_a1 : ∀ b, b < 64 → ∀ a, a < 64 → bc_f (4096 + 64 * b + a) = bc_n (4096 + 64 * b + a) := by decide +kernel
theorem bc_a2 : ∀ b, b < 64 → ∀ a, a < 64 → bc_f (8192 + 64 * b + a) = bc_n (8192 + 64 * b + a) := by decide +kernel
theorem bc_a3 : ∀ b, b < 64 → ∀ a, a < 64 → bc_f (12288 + 64 * b + a) = bc_n (12288 + 64 * b + a) := by decide +kernel
theorem bc_a4 : ∀ b, b < 64 → ∀ a, a < 64 → bc_f (16384 + 64 * b + a) = bc_n (16384 + 64 * b + a) := by decide +kernel
theorem bc_a5 : ∀ b, b < 64 → ∀ a, a < 64 → bc_f (20480 + 64 * b + a) = bc_n (20480 + 64 * b + a) := by decide +kernel
theorem bc_a6 : ∀ b, b < 64 → ∀ a, a < 64 → bc_f (24576 + 64 * b + a) = bc_n (24576 + 64 * b + a) := by decide +kernel
theorem bc_a7 : ∀ b, b < 64 → ∀ a, a < 64 → bc_f (28672 + 64 * b + a) = bc_n (28672 + 64 * b + a) := by decide +kernel
theorem bc_a8 : ∀ b, b < 64 → ∀ a, a < 64 → bc_f (32768 + 64 * b + a) = bc_n (32768 + 64 * b + a) := by decide +kernel
theorem bc_a9 : ∀ b, b < 64 → ∀ a, a < 64 → bc_f (36864 + 64 * b + a) = bc_n (36864 + 64 * b + a) := by decide +kernel
theorem bc_a10 : ∀ b, b < 64 → ∀ a, a < 64 → bc_f (40960 + 64 * b + a) = bc_n (40960 + 64 * b + a) := by decide +kernel
theorem bc_a11 : ∀ b, b < 64 → ∀ a, a < 64 → bc_f (45056 + 64 * b + a) = bc_n (45056 + 64 * b + a) := by decide +kernel
theorem bc_a12 : ∀ b, b < 64 → ∀ a, a < 64 → bc_f (49152 + 64 * b + a) = bc_n (49152 + 64 * b + a) := by decide +kernel
theorem bc_a13 : ∀ b, b < 64 → ∀ a, a < 64 → bc_f (53248 + 64 * b + a) = bc_n (53248 + 64 * b + a) := by decide +kernel
theorem bc_a14 : ∀ b, b < 64 → ∀ a, a < 64 → bc_f (57344 + 64 * b + a) = bc_n (57344 + 64 * b + a) := by decide +kernel
theorem bc_a15 : ∀ b, b < 64 → ∀ a, a < 64 → bc_f (61440 + 64 * b + a) = bc_n (61440 + 64 * b + a) := by decide +kernel
theorem bc_a16 : ∀ b, b < 64 → ∀ a, a < 64 → bc_f (65536 + 64 * b + a) = bc_n (65536 + 64 * b + a) := by decide +kernel
theorem bc_a17 : ∀ b, b < 64 → ∀ a, a < 64 → bc_f (69632 + 64 * b + a) = bc_n (69632 + 64 * b + a) := by decide +kernel
theorem bc_a18 : ∀ b, b < 64 → ∀ a, a < 64 → bc_f (73728 + 64 * b + a) = bc_n (73728 + 64 * b + a) := by decide +kernel
theorem bc_a19 : ∀ b, b < 64 → ∀ a, a < 64 → bc_f (77824 + 64 * b + a) = bc_n (77824 + 64 * b + a) := by decide +kernel
theorem bc_a20 : ∀ b, b < 64 → ∀ a, a < 64 → bc_f (81920 + 64 * b + a) = bc_n (81920 + 64 * b + a) := by decide +kernel
theorem bc_a21 : ∀ b, b < 64 → ∀ a, a < 64 → bc_f (86016 + 64 * b + a) = bc_n (86016 + 64 * b + a) := by decide +kernel
theorem bc_a22 : ∀ b, b < 64 → ∀ a, a < 64 → bc_f (90112 + 64 * b + a) = bc_n (90112 + 64 * b + a) := by decide +kernel
theorem bc_a23 : ∀ b, b < 64 → ∀ a, a < 64 → bc_f (94208 + 64 * b + a) = bc_n (94208 + 64 * b + a) := by decide +kernel
theorem bc_a24 : ∀ b, b < 64 → ∀ a, a < 64 → bc_f (98304 + 64 * b + a) = bc_n (98304 + 64 * b + a) := by decide +kernel
theorem bc_a25 : ∀ b, b < 64 → ∀ a, a < 64 → bc_f (102400 + 64 * b + a) = bc_n (102400 + 64 * b + a) := by decide +kernel
theorem bc_a26 : ∀ b, b < 64 → ∀ a, a < 64 → bc_f (106496 + 64 * b + a) = bc_n (106496 + 64 * b + a) := by decide +kernel
theorem bc_a27 : ∀ b, b < 64 → ∀ a, a < 64 → bc_f (110592 + 64 * b + a) = bc_n (110592 + 64 * b + a) := by decide +kernel
theorem bc_a28 : ∀ b, b < 64 → ∀ a, a < 64 → bc_f (114688 + 64 * b + a) = bc_n (114688 + 64 * b + a) := by decide +kernel
theorem bc_a29 : ∀ b, b < 64 → ∀ a, a < 64 → bc_f (118784 + 64 * b + a) = bc_n (118784 + 64 * b + a) := by decide +kernel
theorem bc_a30 : ∀ b, b < 64 → ∀ a, a < 64 → bc_f (122880 + 64 * b + a) = bc_n (122880 + 64 * b + a) := by decide +kernel
theorem bc_a31 : ∀ b, b < 64 → ∀ a, a < 64 → bc_f (126976 + 64 * b + a) = bc_n (126976 + 64 * b + a) := by decide +kernel
theorem bc_all : ∀ j, j < 32 → ∀ b, b < 64 → ∀ a, a < 64 → bc_f (4096 * j + 64 * b + a) = bc_n (4096 * j + 64 * b + a) := by
  intro j hj
  match j, hj with
  | 0, _ => exact bc_a0
  | 1, _ => exact bc_a1
  | 2, _ => exact bc_a2
  | 3, _ => exact bc_a3
  | 4, _ => exact bc_a4
  | 5, _ => exact bc_a5
  | 6, _ => exact bc_a6
  | 7, _ => exact bc_a7
  | 8, _ => exact bc_a8
  | 9, _ => exact bc_a9
  | 10, _ => exact bc_a10
  | 11, _ => exact bc_a11
  | 12, _ => exact bc_a12
  | 13, _ => exact bc_a13
  | 14, _ => exact bc_a14
  | 15, _ => exact bc_a15
  | 16, _ => exact bc_a16
  | 17, _ => exact bc_a17
  | 18, _ => exact bc_a18
  | 19, _ => exact bc_a19
  | 20, _ => exact bc_a20
  | 21, _ => exact bc_a21
  | 22, _ => exact bc_a22
  | 23, _ => exact bc_a23
  | 24, _ => exact bc_a24
  | 25, _ => exact bc_a25
  | 26, _ => exact bc_a26
  | 27, _ => exact bc_a27
  | 28, _ => exact bc_a28
  | 29, _ => exact bc_a29
  | 30, _ => exact bc_a30
  | 31, _ => exact bc_a31
  | j + 32, hj => exact absurd hj (by omega)
theorem bc_cnt {k : Nat} (h : k < 131072) : v_J6_bitCount_0f7a4 (nI k) = nI (bc_n k) := by
  rw [bc_N (by omega)]
  have := bc_all (k / 4096) (by omega) (k / 64 % 64) (by omega) (k % 64) (by omega)
  rw [show 4096 * (k / 4096) + 64 * (k / 64 % 64) + k % 64 = k by omega] at this
  rw [this]
