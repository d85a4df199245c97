/-! all nets in their order: what the numbers of the nets are -/
def nC1 (n c : Int) (a : Nat) (x : Int) : Int := or64 x (shl64 (or32 (and32 (and32 (shr32 c (w32 ((a : Int) * w32 (n - 1)))) (w32 (shl32 1 (w32 (n - 1)) - 1))) (w32 (shl32 1 (a : Int) - 1))) (shl32 (shr32 (and32 (shr32 c (w32 ((a : Int) * w32 (n - 1)))) (w32 (shl32 1 (w32 (n - 1)) - 1))) (a : Int)) (w32 ((a : Int) + 1)))) (w32 ((a : Int) * 8)))
def nC (n : Nat) (c : Int) : Int := fd (nC1 n c) n 0
def nM1 (c : Int) (a : Nat) (x : Int) : Int := or64 x (shl64 (and32 (shr32 c (w32 (4 * (a : Int)))) 15) (w32 (8 * (a : Int))))
def nM (n : Nat) (c : Int) : Int := fd (nM1 c) n 0
theorem and32_3 (x : Int) : and32 x 3 = x % 4 := by
  unfold and32
  rw [← Int32.toInt_toBitVec, Int32.toBitVec_and, Int32.toBitVec_ofInt, Int32.toBitVec_ofInt]
  have h : (BitVec.ofInt 32 x &&& BitVec.ofInt 32 3).toNat = (x % 4).toNat := by
    rw [BitVec.toNat_and, BitVec.toNat_ofInt, show (BitVec.ofInt 32 3).toNat = 2 ^ 2 - 1 from rfl, Nat.and_two_pow_sub_one_eq_mod]
    omega
  rw [BitVec.toInt_eq_toNat_cond, h]
  rw [if_pos (by omega)]
  omega
theorem and32_7 (x : Int) : and32 x 7 = x % 8 := by
  unfold and32
  rw [← Int32.toInt_toBitVec, Int32.toBitVec_and, Int32.toBitVec_ofInt, Int32.toBitVec_ofInt]
  have h : (BitVec.ofInt 32 x &&& BitVec.ofInt 32 7).toNat = (x % 8).toNat := by
    rw [BitVec.toNat_and, BitVec.toNat_ofInt, show (BitVec.ofInt 32 7).toNat = 2 ^ 3 - 1 from rfl, Nat.and_two_pow_sub_one_eq_mod]
    omega
  rw [BitVec.toInt_eq_toNat_cond, h]
  rw [if_pos (by omega)]
  omega
theorem and32_15 (x : Int) : and32 x 15 = x % 16 := by
  unfold and32
  rw [← Int32.toInt_toBitVec, Int32.toBitVec_and, Int32.toBitVec_ofInt, Int32.toBitVec_ofInt]
  have h : (BitVec.ofInt 32 x &&& BitVec.ofInt 32 15).toNat = (x % 16).toNat := by
    rw [BitVec.toNat_and, BitVec.toNat_ofInt, show (BitVec.ofInt 32 15).toNat = 2 ^ 4 - 1 from rfl, Nat.and_two_pow_sub_one_eq_mod]
    omega
  rw [BitVec.toInt_eq_toNat_cond, h]
  rw [if_pos (by omega)]
  omega
theorem or_sh0 {x y : Int} (hx : 0 ≤ x ∧ x < 1) (hy : 0 ≤ y ∧ y < 256) : or64 x (shl64 y 0) = x + y * 1 := by
  have hc : ∀ j : Fin 256, shl64 (j.val : Int) 0 = (j.val : Int) * 1 := by decide +kernel
  have e := hc ⟨y.toNat, by omega⟩
  rw [show ((⟨y.toNat, by omega⟩ : Fin 256).val : Int) = y from Int.toNat_of_nonneg hy.1] at e
  rw [e]
  obtain ⟨X, rfl⟩ := Int.eq_ofNat_of_zero_le hx.1
  obtain ⟨Y, rfl⟩ := Int.eq_ofNat_of_zero_le hy.1
  unfold or64
  rw [← Int64.toInt_toBitVec, Int64.toBitVec_or, Int64.toBitVec_ofInt, Int64.toBitVec_ofInt]
  have h : (BitVec.ofInt 64 (X : Int) ||| BitVec.ofInt 64 ((Y : Int) * 1)).toNat = 2 ^ 0 * Y + X := by
    rw [BitVec.toNat_or, BitVec.toNat_ofInt, BitVec.toNat_ofInt, Nat.two_pow_add_eq_or_of_lt (show X < 2 ^ 0 by omega) Y, Nat.or_comm]
    have e1 : ((X : Int) % ((2 ^ 64 : Nat) : Int)).toNat = X := by omega
    have e2 : (((Y : Int) * 1) % ((2 ^ 64 : Nat) : Int)).toNat = 2 ^ 0 * Y := by omega
    rw [e1, e2]
  rw [BitVec.toInt_eq_toNat_cond, h, if_pos (by omega)]
  omega
theorem or_sh1 {x y : Int} (hx : 0 ≤ x ∧ x < 256) (hy : 0 ≤ y ∧ y < 256) : or64 x (shl64 y 8) = x + y * 256 := by
  have hc : ∀ j : Fin 256, shl64 (j.val : Int) 8 = (j.val : Int) * 256 := by decide +kernel
  have e := hc ⟨y.toNat, by omega⟩
  rw [show ((⟨y.toNat, by omega⟩ : Fin 256).val : Int) = y from Int.toNat_of_nonneg hy.1] at e
  rw [e]
  obtain ⟨X, rfl⟩ := Int.eq_ofNat_of_zero_le hx.1
  obtain ⟨Y, rfl⟩ := Int.eq_ofNat_of_zero_le hy.1
  unfold or64
  rw [← Int64.toInt_toBitVec, Int64.toBitVec_or, Int64.toBitVec_ofInt, Int64.toBitVec_ofInt]
  have h : (BitVec.ofInt 64 (X : Int) ||| BitVec.ofInt 64 ((Y : Int) * 256)).toNat = 2 ^ 8 * Y + X := by
    rw [BitVec.toNat_or, BitVec.toNat_ofInt, BitVec.toNat_ofInt, Nat.two_pow_add_eq_or_of_lt (show X < 2 ^ 8 by omega) Y, Nat.or_comm]
    have e1 : ((X : Int) % ((2 ^ 64 : Nat) : Int)).toNat = X := by omega
    have e2 : (((Y : Int) * 256) % ((2 ^ 64 : Nat) : Int)).toNat = 2 ^ 8 * Y := by omega
    rw [e1, e2]
  rw [BitVec.toInt_eq_toNat_cond, h, if_pos (by omega)]
  omega
theorem or_sh2 {x y : Int} (hx : 0 ≤ x ∧ x < 65536) (hy : 0 ≤ y ∧ y < 256) : or64 x (shl64 y 16) = x + y * 65536 := by
  have hc : ∀ j : Fin 256, shl64 (j.val : Int) 16 = (j.val : Int) * 65536 := by decide +kernel
  have e := hc ⟨y.toNat, by omega⟩
  rw [show ((⟨y.toNat, by omega⟩ : Fin 256).val : Int) = y from Int.toNat_of_nonneg hy.1] at e
  rw [e]
  obtain ⟨X, rfl⟩ := Int.eq_ofNat_of_zero_le hx.1
  obtain ⟨Y, rfl⟩ := Int.eq_ofNat_of_zero_le hy.1
  unfold or64
  rw [← Int64.toInt_toBitVec, Int64.toBitVec_or, Int64.toBitVec_ofInt, Int64.toBitVec_ofInt]
  have h : (BitVec.ofInt 64 (X : Int) ||| BitVec.ofInt 64 ((Y : Int) * 65536)).toNat = 2 ^ 16 * Y + X := by
    rw [BitVec.toNat_or, BitVec.toNat_ofInt, BitVec.toNat_ofInt, Nat.two_pow_add_eq_or_of_lt (show X < 2 ^ 16 by omega) Y, Nat.or_comm]
    have e1 : ((X : Int) % ((2 ^ 64 : Nat) : Int)).toNat = X := by omega
    have e2 : (((Y : Int) * 65536) % ((2 ^ 64 : Nat) : Int)).toNat = 2 ^ 16 * Y := by omega
    rw [e1, e2]
  rw [BitVec.toInt_eq_toNat_cond, h, if_pos (by omega)]
  omega
theorem or_sh3 {x y : Int} (hx : 0 ≤ x ∧ x < 16777216) (hy : 0 ≤ y ∧ y < 256) : or64 x (shl64 y 24) = x + y * 16777216 := by
  have hc : ∀ j : Fin 256, shl64 (j.val : Int) 24 = (j.val : Int) * 16777216 := by decide +kernel
  have e := hc ⟨y.toNat, by omega⟩
  rw [show ((⟨y.toNat, by omega⟩ : Fin 256).val : Int) = y from Int.toNat_of_nonneg hy.1] at e
  rw [e]
  obtain ⟨X, rfl⟩ := Int.eq_ofNat_of_zero_le hx.1
  obtain ⟨Y, rfl⟩ := Int.eq_ofNat_of_zero_le hy.1
  unfold or64
  rw [← Int64.toInt_toBitVec, Int64.toBitVec_or, Int64.toBitVec_ofInt, Int64.toBitVec_ofInt]
  have h : (BitVec.ofInt 64 (X : Int) ||| BitVec.ofInt 64 ((Y : Int) * 16777216)).toNat = 2 ^ 24 * Y + X := by
    rw [BitVec.toNat_or, BitVec.toNat_ofInt, BitVec.toNat_ofInt, Nat.two_pow_add_eq_or_of_lt (show X < 2 ^ 24 by omega) Y, Nat.or_comm]
    have e1 : ((X : Int) % ((2 ^ 64 : Nat) : Int)).toNat = X := by omega
    have e2 : (((Y : Int) * 16777216) % ((2 ^ 64 : Nat) : Int)).toNat = 2 ^ 24 * Y := by omega
    rw [e1, e2]
  rw [BitVec.toInt_eq_toNat_cond, h, if_pos (by omega)]
  omega
theorem row_0 {d : Int} (h : 0 ≤ d ∧ d < 8) : or32 (and32 d (w32 (shl32 1 ((0 : Nat) : Int) - 1))) (shl32 (shr32 d ((0 : Nat) : Int)) (w32 (((0 : Nat) : Int) + 1))) = (2 * (d)) := by
  have hc : ∀ j : Fin 8, or32 (and32 (j.val : Int) (w32 (shl32 1 ((0 : Nat) : Int) - 1))) (shl32 (shr32 (j.val : Int) ((0 : Nat) : Int)) (w32 (((0 : Nat) : Int) + 1))) = (2 * ((j.val : Int))) := by decide +kernel
  have e := hc ⟨d.toNat, by omega⟩
  rw [show ((⟨d.toNat, by omega⟩ : Fin 8).val : Int) = d from Int.toNat_of_nonneg h.1] at e
  exact e
theorem row_1 {d : Int} (h : 0 ≤ d ∧ d < 8) : or32 (and32 d (w32 (shl32 1 ((1 : Nat) : Int) - 1))) (shl32 (shr32 d ((1 : Nat) : Int)) (w32 (((1 : Nat) : Int) + 1))) = ((d) % 2 + (d) / 2 * 4) := by
  have hc : ∀ j : Fin 8, or32 (and32 (j.val : Int) (w32 (shl32 1 ((1 : Nat) : Int) - 1))) (shl32 (shr32 (j.val : Int) ((1 : Nat) : Int)) (w32 (((1 : Nat) : Int) + 1))) = (((j.val : Int)) % 2 + ((j.val : Int)) / 2 * 4) := by decide +kernel
  have e := hc ⟨d.toNat, by omega⟩
  rw [show ((⟨d.toNat, by omega⟩ : Fin 8).val : Int) = d from Int.toNat_of_nonneg h.1] at e
  exact e
theorem row_2 {d : Int} (h : 0 ≤ d ∧ d < 8) : or32 (and32 d (w32 (shl32 1 ((2 : Nat) : Int) - 1))) (shl32 (shr32 d ((2 : Nat) : Int)) (w32 (((2 : Nat) : Int) + 1))) = ((d) % 4 + (d) / 4 * 8) := by
  have hc : ∀ j : Fin 8, or32 (and32 (j.val : Int) (w32 (shl32 1 ((2 : Nat) : Int) - 1))) (shl32 (shr32 (j.val : Int) ((2 : Nat) : Int)) (w32 (((2 : Nat) : Int) + 1))) = (((j.val : Int)) % 4 + ((j.val : Int)) / 4 * 8) := by decide +kernel
  have e := hc ⟨d.toNat, by omega⟩
  rw [show ((⟨d.toNat, by omega⟩ : Fin 8).val : Int) = d from Int.toNat_of_nonneg h.1] at e
  exact e
theorem row_3 {d : Int} (h : 0 ≤ d ∧ d < 8) : or32 (and32 d (w32 (shl32 1 ((3 : Nat) : Int) - 1))) (shl32 (shr32 d ((3 : Nat) : Int)) (w32 (((3 : Nat) : Int) + 1))) = (d) := by
  have hc : ∀ j : Fin 8, or32 (and32 (j.val : Int) (w32 (shl32 1 ((3 : Nat) : Int) - 1))) (shl32 (shr32 (j.val : Int) ((3 : Nat) : Int)) (w32 (((3 : Nat) : Int) + 1))) = ((j.val : Int)) := by decide +kernel
  have e := hc ⟨d.toNat, by omega⟩
  rw [show ((⟨d.toNat, by omega⟩ : Fin 8).val : Int) = d from Int.toNat_of_nonneg h.1] at e
  exact e
theorem nC1_20 {c x : Int} (hc : 0 ≤ c ∧ c < 4096) (hx : 0 ≤ x ∧ x < 1) : nC1 ((2 : Nat) : Int) c 0 x = x + (2 * (c / 1 % 2)) * 1 := by
  unfold nC1
  rw [show w32 (((0 : Nat) : Int) * w32 (((2 : Nat) : Int) - 1)) = ((0 : Nat) : Int) from by decide, shr32_k (by unfold r32; omega) (by decide), show w32 (shl32 1 (w32 (((2 : Nat) : Int) - 1)) - 1) = 1 from by decide, and32_1, show w32 (((0 : Nat) : Int) * 8) = 0 from by decide, show ((2 ^ 0 : Nat) : Int) = 1 from rfl]
  rw [row_0 (by omega)]
  exact or_sh0 hx (by omega)
theorem nC1_21 {c x : Int} (hc : 0 ≤ c ∧ c < 4096) (hx : 0 ≤ x ∧ x < 256) : nC1 ((2 : Nat) : Int) c 1 x = x + ((c / 2 % 2) % 2 + (c / 2 % 2) / 2 * 4) * 256 := by
  unfold nC1
  rw [show w32 (((1 : Nat) : Int) * w32 (((2 : Nat) : Int) - 1)) = ((1 : Nat) : Int) from by decide, shr32_k (by unfold r32; omega) (by decide), show w32 (shl32 1 (w32 (((2 : Nat) : Int) - 1)) - 1) = 1 from by decide, and32_1, show w32 (((1 : Nat) : Int) * 8) = 8 from by decide, show ((2 ^ 1 : Nat) : Int) = 2 from rfl]
  rw [row_1 (by omega)]
  exact or_sh1 hx (by omega)
theorem nC_2 {c : Int} (hc : 0 ≤ c ∧ c < 4) : nC 2 c = 0 + (2 * (c / 1 % 2)) * 1 + ((c / 2 % 2) % 2 + (c / 2 % 2) / 2 * 4) * 256 := by
  show nC1 ((2 : Nat) : Int) c 1 (nC1 ((2 : Nat) : Int) c 0 (0)) = _
  rw [nC1_20 (by omega) (by omega), nC1_21 (by omega) (by omega)]
theorem nC1_30 {c x : Int} (hc : 0 ≤ c ∧ c < 4096) (hx : 0 ≤ x ∧ x < 1) : nC1 ((3 : Nat) : Int) c 0 x = x + (2 * (c / 1 % 4)) * 1 := by
  unfold nC1
  rw [show w32 (((0 : Nat) : Int) * w32 (((3 : Nat) : Int) - 1)) = ((0 : Nat) : Int) from by decide, shr32_k (by unfold r32; omega) (by decide), show w32 (shl32 1 (w32 (((3 : Nat) : Int) - 1)) - 1) = 3 from by decide, and32_3, show w32 (((0 : Nat) : Int) * 8) = 0 from by decide, show ((2 ^ 0 : Nat) : Int) = 1 from rfl]
  rw [row_0 (by omega)]
  exact or_sh0 hx (by omega)
theorem nC1_31 {c x : Int} (hc : 0 ≤ c ∧ c < 4096) (hx : 0 ≤ x ∧ x < 256) : nC1 ((3 : Nat) : Int) c 1 x = x + ((c / 4 % 4) % 2 + (c / 4 % 4) / 2 * 4) * 256 := by
  unfold nC1
  rw [show w32 (((1 : Nat) : Int) * w32 (((3 : Nat) : Int) - 1)) = ((2 : Nat) : Int) from by decide, shr32_k (by unfold r32; omega) (by decide), show w32 (shl32 1 (w32 (((3 : Nat) : Int) - 1)) - 1) = 3 from by decide, and32_3, show w32 (((1 : Nat) : Int) * 8) = 8 from by decide, show ((2 ^ 2 : Nat) : Int) = 4 from rfl]
  rw [row_1 (by omega)]
  exact or_sh1 hx (by omega)
theorem nC1_32 {c x : Int} (hc : 0 ≤ c ∧ c < 4096) (hx : 0 ≤ x ∧ x < 65536) : nC1 ((3 : Nat) : Int) c 2 x = x + ((c / 16 % 4) % 4 + (c / 16 % 4) / 4 * 8) * 65536 := by
  unfold nC1
  rw [show w32 (((2 : Nat) : Int) * w32 (((3 : Nat) : Int) - 1)) = ((4 : Nat) : Int) from by decide, shr32_k (by unfold r32; omega) (by decide), show w32 (shl32 1 (w32 (((3 : Nat) : Int) - 1)) - 1) = 3 from by decide, and32_3, show w32 (((2 : Nat) : Int) * 8) = 16 from by decide, show ((2 ^ 4 : Nat) : Int) = 16 from rfl]
  rw [row_2 (by omega)]
  exact or_sh2 hx (by omega)
theorem nC_3 {c : Int} (hc : 0 ≤ c ∧ c < 64) : nC 3 c = 0 + (2 * (c / 1 % 4)) * 1 + ((c / 4 % 4) % 2 + (c / 4 % 4) / 2 * 4) * 256 + ((c / 16 % 4) % 4 + (c / 16 % 4) / 4 * 8) * 65536 := by
  show nC1 ((3 : Nat) : Int) c 2 (nC1 ((3 : Nat) : Int) c 1 (nC1 ((3 : Nat) : Int) c 0 (0))) = _
  rw [nC1_30 (by omega) (by omega), nC1_31 (by omega) (by omega), nC1_32 (by omega) (by omega)]
theorem nC1_40 {c x : Int} (hc : 0 ≤ c ∧ c < 4096) (hx : 0 ≤ x ∧ x < 1) : nC1 ((4 : Nat) : Int) c 0 x = x + (2 * (c / 1 % 8)) * 1 := by
  unfold nC1
  rw [show w32 (((0 : Nat) : Int) * w32 (((4 : Nat) : Int) - 1)) = ((0 : Nat) : Int) from by decide, shr32_k (by unfold r32; omega) (by decide), show w32 (shl32 1 (w32 (((4 : Nat) : Int) - 1)) - 1) = 7 from by decide, and32_7, show w32 (((0 : Nat) : Int) * 8) = 0 from by decide, show ((2 ^ 0 : Nat) : Int) = 1 from rfl]
  rw [row_0 (by omega)]
  exact or_sh0 hx (by omega)
theorem nC1_41 {c x : Int} (hc : 0 ≤ c ∧ c < 4096) (hx : 0 ≤ x ∧ x < 256) : nC1 ((4 : Nat) : Int) c 1 x = x + ((c / 8 % 8) % 2 + (c / 8 % 8) / 2 * 4) * 256 := by
  unfold nC1
  rw [show w32 (((1 : Nat) : Int) * w32 (((4 : Nat) : Int) - 1)) = ((3 : Nat) : Int) from by decide, shr32_k (by unfold r32; omega) (by decide), show w32 (shl32 1 (w32 (((4 : Nat) : Int) - 1)) - 1) = 7 from by decide, and32_7, show w32 (((1 : Nat) : Int) * 8) = 8 from by decide, show ((2 ^ 3 : Nat) : Int) = 8 from rfl]
  rw [row_1 (by omega)]
  exact or_sh1 hx (by omega)
theorem nC1_42 {c x : Int} (hc : 0 ≤ c ∧ c < 4096) (hx : 0 ≤ x ∧ x < 65536) : nC1 ((4 : Nat) : Int) c 2 x = x + ((c / 64 % 8) % 4 + (c / 64 % 8) / 4 * 8) * 65536 := by
  unfold nC1
  rw [show w32 (((2 : Nat) : Int) * w32 (((4 : Nat) : Int) - 1)) = ((6 : Nat) : Int) from by decide, shr32_k (by unfold r32; omega) (by decide), show w32 (shl32 1 (w32 (((4 : Nat) : Int) - 1)) - 1) = 7 from by decide, and32_7, show w32 (((2 : Nat) : Int) * 8) = 16 from by decide, show ((2 ^ 6 : Nat) : Int) = 64 from rfl]
  rw [row_2 (by omega)]
  exact or_sh2 hx (by omega)
theorem nC1_43 {c x : Int} (hc : 0 ≤ c ∧ c < 4096) (hx : 0 ≤ x ∧ x < 16777216) : nC1 ((4 : Nat) : Int) c 3 x = x + (c / 512 % 8) * 16777216 := by
  unfold nC1
  rw [show w32 (((3 : Nat) : Int) * w32 (((4 : Nat) : Int) - 1)) = ((9 : Nat) : Int) from by decide, shr32_k (by unfold r32; omega) (by decide), show w32 (shl32 1 (w32 (((4 : Nat) : Int) - 1)) - 1) = 7 from by decide, and32_7, show w32 (((3 : Nat) : Int) * 8) = 24 from by decide, show ((2 ^ 9 : Nat) : Int) = 512 from rfl]
  rw [row_3 (by omega)]
  exact or_sh3 hx (by omega)
theorem nC_4 {c : Int} (hc : 0 ≤ c ∧ c < 4096) : nC 4 c = 0 + (2 * (c / 1 % 8)) * 1 + ((c / 8 % 8) % 2 + (c / 8 % 8) / 2 * 4) * 256 + ((c / 64 % 8) % 4 + (c / 64 % 8) / 4 * 8) * 65536 + (c / 512 % 8) * 16777216 := by
  show nC1 ((4 : Nat) : Int) c 3 (nC1 ((4 : Nat) : Int) c 2 (nC1 ((4 : Nat) : Int) c 1 (nC1 ((4 : Nat) : Int) c 0 (0)))) = _
  rw [nC1_40 (by omega) (by omega), nC1_41 (by omega) (by omega), nC1_42 (by omega) (by omega), nC1_43 (by omega) (by omega)]
theorem nM1_0 {c x : Int} (hc : 0 ≤ c ∧ c < 65536) (hx : 0 ≤ x ∧ x < 1) : nM1 c 0 x = x + (c / 1 % 16) * 1 := by
  unfold nM1
  rw [show w32 (4 * ((0 : Nat) : Int)) = ((0 : Nat) : Int) from by decide, shr32_k (by unfold r32; omega) (by decide), and32_15, show w32 (8 * ((0 : Nat) : Int)) = 0 from by decide, show ((2 ^ 0 : Nat) : Int) = 1 from rfl]
  exact or_sh0 hx (by omega)
theorem nM1_1 {c x : Int} (hc : 0 ≤ c ∧ c < 65536) (hx : 0 ≤ x ∧ x < 256) : nM1 c 1 x = x + (c / 16 % 16) * 256 := by
  unfold nM1
  rw [show w32 (4 * ((1 : Nat) : Int)) = ((4 : Nat) : Int) from by decide, shr32_k (by unfold r32; omega) (by decide), and32_15, show w32 (8 * ((1 : Nat) : Int)) = 8 from by decide, show ((2 ^ 4 : Nat) : Int) = 16 from rfl]
  exact or_sh1 hx (by omega)
theorem nM1_2 {c x : Int} (hc : 0 ≤ c ∧ c < 65536) (hx : 0 ≤ x ∧ x < 65536) : nM1 c 2 x = x + (c / 256 % 16) * 65536 := by
  unfold nM1
  rw [show w32 (4 * ((2 : Nat) : Int)) = ((8 : Nat) : Int) from by decide, shr32_k (by unfold r32; omega) (by decide), and32_15, show w32 (8 * ((2 : Nat) : Int)) = 16 from by decide, show ((2 ^ 8 : Nat) : Int) = 256 from rfl]
  exact or_sh2 hx (by omega)
theorem nM1_3 {c x : Int} (hc : 0 ≤ c ∧ c < 65536) (hx : 0 ≤ x ∧ x < 16777216) : nM1 c 3 x = x + (c / 4096 % 16) * 16777216 := by
  unfold nM1
  rw [show w32 (4 * ((3 : Nat) : Int)) = ((12 : Nat) : Int) from by decide, shr32_k (by unfold r32; omega) (by decide), and32_15, show w32 (8 * ((3 : Nat) : Int)) = 24 from by decide, show ((2 ^ 12 : Nat) : Int) = 4096 from rfl]
  exact or_sh3 hx (by omega)
theorem nM_2 {c : Int} (hc : 0 ≤ c ∧ c < 256) : nM 2 c = 0 + (c / 1 % 16) * 1 + (c / 16 % 16) * 256 := by
  show nM1 c 1 (nM1 c 0 (0)) = _
  rw [nM1_0 (by omega) (by omega), nM1_1 (by omega) (by omega)]
theorem nM_3 {c : Int} (hc : 0 ≤ c ∧ c < 4096) : nM 3 c = 0 + (c / 1 % 16) * 1 + (c / 16 % 16) * 256 + (c / 256 % 16) * 65536 := by
  show nM1 c 2 (nM1 c 1 (nM1 c 0 (0))) = _
  rw [nM1_0 (by omega) (by omega), nM1_1 (by omega) (by omega), nM1_2 (by omega) (by omega)]
theorem nM_4 {c : Int} (hc : 0 ≤ c ∧ c < 65536) : nM 4 c = 0 + (c / 1 % 16) * 1 + (c / 16 % 16) * 256 + (c / 256 % 16) * 65536 + (c / 4096 % 16) * 16777216 := by
  show nM1 c 3 (nM1 c 2 (nM1 c 1 (nM1 c 0 (0)))) = _
  rw [nM1_0 (by omega) (by omega), nM1_1 (by omega) (by omega), nM1_2 (by omega) (by omega), nM1_3 (by omega) (by omega)]
