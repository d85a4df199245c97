/-! numbers of the pure machine: whole numbers, cut to 32 or 64 bits where the machine cuts -/
def w32 (x : Int) : Int := (x + 2147483648) % 4294967296 - 2147483648
def w64 (x : Int) : Int := (x + 9223372036854775808) % 18446744073709551616 - 9223372036854775808
def w8 (x : Int) : Int := (x + 128) % 256 - 128
def r32 (x : Int) : Prop := -2147483648 ≤ x ∧ x < 2147483648
def r64 (x : Int) : Prop := -9223372036854775808 ≤ x ∧ x < 9223372036854775808
def r8 (x : Int) : Prop := -128 ≤ x ∧ x < 128
theorem w32_id {x : Int} (h : -2147483648 ≤ x) (h2 : x < 2147483648) : w32 x = x := by unfold w32; omega
theorem w64_id {x : Int} (h : -9223372036854775808 ≤ x) (h2 : x < 9223372036854775808) : w64 x = x := by unfold w64; omega
theorem w32_r (x : Int) : r32 (w32 x) := by unfold r32 w32; omega
theorem w64_r (x : Int) : r64 (w64 x) := by unfold r64 w64; omega
theorem w8_r (x : Int) : r8 (w8 x) := by unfold r8 w8; omega
theorem r8_32 {x : Int} (h : r8 x) : r32 x := by unfold r8 at h; unfold r32; omega
theorem w32_bmod (x : Int) : w32 x = x.bmod (2 ^ 32) := by rw [Int.bmod_def]; unfold w32; omega
theorem w64_bmod (x : Int) : w64 x = x.bmod (2 ^ 64) := by rw [Int.bmod_def]; unfold w64; omega
theorem w8_bmod (x : Int) : w8 x = x.bmod (2 ^ 8) := by rw [Int.bmod_def]; unfold w8; omega
theorem oi_i {x : Int} (h : r32 x) : (Int32.ofInt x).toInt = x := Int32.toInt_ofInt_of_le h.1 h.2
theorem oi_l {x : Int} (h : r64 x) : (Int64.ofInt x).toInt = x := Int64.toInt_ofInt_of_le h.1 h.2
theorem ow32 (x : Int) : Int32.ofInt (w32 x) = Int32.ofInt x := by
  apply Int32.toInt_inj.mp
  rw [oi_i (w32_r x), w32_bmod, Int32.toInt_ofInt]
theorem ow64 (x : Int) : Int64.ofInt (w64 x) = Int64.ofInt x := by
  apply Int64.toInt_inj.mp
  rw [oi_l (w64_r x), w64_bmod, Int64.toInt_ofInt]
theorem ti_r (x : Int32) : r32 x.toInt := ⟨x.le_toInt, x.toInt_lt⟩
theorem tl_r (x : Int64) : r64 x.toInt := ⟨x.le_toInt, x.toInt_lt⟩
theorem oi_eq {a b : Int} (ha : r32 a) (hb : r32 b) : Int32.ofInt a = Int32.ofInt b ↔ a = b := by
  rw [← Int32.toInt_inj, oi_i ha, oi_i hb]
theorem oi_lt {a b : Int} (ha : r32 a) (hb : r32 b) : Int32.ofInt a < Int32.ofInt b ↔ a < b := by
  rw [Int32.lt_iff_toInt_lt, oi_i ha, oi_i hb]
theorem oi_le {a b : Int} (ha : r32 a) (hb : r32 b) : Int32.ofInt a ≤ Int32.ofInt b ↔ a ≤ b := by
  rw [Int32.le_iff_toInt_le, oi_i ha, oi_i hb]
theorem ol_eq {a b : Int} (ha : r64 a) (hb : r64 b) : Int64.ofInt a = Int64.ofInt b ↔ a = b := by
  rw [← Int64.toInt_inj, oi_l ha, oi_l hb]
theorem ol_lt {a b : Int} (ha : r64 a) (hb : r64 b) : Int64.ofInt a < Int64.ofInt b ↔ a < b := by
  rw [Int64.lt_iff_toInt_lt, oi_l ha, oi_l hb]
theorem oz : (0 : Int32) = Int32.ofInt 0 := by first | rfl | decide
theorem r0 : r32 0 := by unfold r32; omega
theorem oi_eq0 {a : Int} (ha : r32 a) : Int32.ofInt a = 0 ↔ a = 0 := by rw [oz]; exact oi_eq ha r0
theorem oi_lt0 {a : Int} (ha : r32 a) : Int32.ofInt a < 0 ↔ a < 0 := by rw [oz]; exact oi_lt ha r0
theorem oi_0lt {a : Int} (ha : r32 a) : 0 < Int32.ofInt a ↔ 0 < a := by rw [oz]; exact oi_lt r0 ha
theorem oi_le0 {a : Int} (ha : r32 a) : Int32.ofInt a ≤ 0 ↔ a ≤ 0 := by rw [oz]; exact oi_le ha r0
theorem oi_0le {a : Int} (ha : r32 a) : 0 ≤ Int32.ofInt a ↔ 0 ≤ a := by rw [oz]; exact oi_le r0 ha
theorem ozl : (0 : Int64) = Int64.ofInt 0 := by first | rfl | decide
theorem r0l : r64 0 := by unfold r64; omega
theorem ol_eq0 {a : Int} (ha : r64 a) : Int64.ofInt a = 0 ↔ a = 0 := by rw [ozl]; exact ol_eq ha r0l
theorem r32_64 {a : Int} (h : r32 a) : r64 a := by unfold r32 at h; unfold r64; omega
theorem o_i2l {a : Int} (h : r32 a) : (Int32.ofInt a).toInt64 = Int64.ofInt a := by
  apply Int64.toInt_inj.mp
  rw [Int32.toInt_toInt64, oi_i h, oi_l (r32_64 h)]
theorem o_l2i {a : Int} : (Int64.ofInt a).toInt32 = Int32.ofInt (w32 a) := by rw [ow32]; exact Int64.toInt32_ofInt
theorem o_i2b {a : Int} (h : r32 a) : (Int32.ofInt a).toInt8.toInt32 = Int32.ofInt (w8 a) := by
  apply Int32.toInt_inj.mp
  rw [Int8.toInt_toInt32, Int32.toInt_toInt8, oi_i h, oi_i (r8_32 (w8_r a)), w8_bmod]
theorem o_div {a b : Int} (ha : r32 a) (hb : r32 b) : Int32.ofInt (w32 (a.tdiv b)) = Int32.ofInt a / Int32.ofInt b := by
  apply Int32.toInt_inj.mp
  rw [oi_i (w32_r _), Int32.toInt_div, oi_i ha, oi_i hb, w32_bmod]
theorem o_ldiv {a b : Int} (ha : r64 a) (hb : r64 b) : Int64.ofInt (w64 (a.tdiv b)) = Int64.ofInt a / Int64.ofInt b := by
  apply Int64.toInt_inj.mp
  rw [oi_l (w64_r _), Int64.toInt_div, oi_l ha, oi_l hb, w64_bmod]
theorem o_rem {a b : Int} (ha : r32 a) (hb : r32 b) : Int32.ofInt (a.tmod b) = Int32.ofInt a - Int32.ofInt a / Int32.ofInt b * Int32.ofInt b := by
  rw [← o_div ha hb, ow32, ← Int32.ofInt_mul, ← Int32.ofInt_sub, Int.tmod_def, Int.mul_comm]
theorem o_lrem {a b : Int} (ha : r64 a) (hb : r64 b) : Int64.ofInt (a.tmod b) = Int64.ofInt a - Int64.ofInt a / Int64.ofInt b * Int64.ofInt b := by
  rw [← o_ldiv ha hb, ow64, ← Int64.ofInt_mul, ← Int64.ofInt_sub, Int.tmod_def, Int.mul_comm]
theorem tmod_r {a b lo hi : Int} (ha : lo ≤ a ∧ a < hi) (hlo : lo ≤ 0) (hhi : 0 < hi) : lo ≤ a.tmod b ∧ a.tmod b < hi := by
  rcases Int.le_total 0 a with h | h
  · have h1 : 0 ≤ a.tmod b := Int.tmod_nonneg b h
    have h2 : a.tmod b ≤ a := by
      have h3 := Int.tmod_def a b
      rcases Int.le_total 0 b with hb | hb
      · have h4 : 0 ≤ a.tdiv b := Int.tdiv_nonneg h hb
        have := Int.mul_nonneg hb h4
        omega
      · have h4 : a.tdiv b ≤ 0 := Int.tdiv_nonpos_of_nonneg_of_nonpos h hb
        have := Int.mul_nonneg_of_nonpos_of_nonpos hb h4
        omega
    omega
  · have e : a.tmod b = -((-a).tmod b) := by rw [Int.neg_tmod, Int.neg_neg]
    have h' : 0 ≤ -a := by omega
    have h1 : 0 ≤ (-a).tmod b := Int.tmod_nonneg b h'
    have h2 : (-a).tmod b ≤ -a := by
      have h3 := Int.tmod_def (-a) b
      rcases Int.le_total 0 b with hb | hb
      · have h4 : 0 ≤ (-a).tdiv b := Int.tdiv_nonneg h' hb
        have := Int.mul_nonneg hb h4
        omega
      · have h4 : (-a).tdiv b ≤ 0 := Int.tdiv_nonpos_of_nonneg_of_nonpos h' hb
        have := Int.mul_nonneg_of_nonpos_of_nonpos hb h4
        omega
    omega
theorem tmod_r32 {a b : Int} (ha : r32 a) : r32 (a.tmod b) := tmod_r ha (by omega) (by omega)
theorem tmod_r64 {a b : Int} (ha : r64 a) : r64 (a.tmod b) := tmod_r ha (by omega) (by omega)
/-! bits: through the machine's own numbers -/
def and32 (a b : Int) : Int := (Int32.ofInt a &&& Int32.ofInt b).toInt
def or32 (a b : Int) : Int := (Int32.ofInt a ||| Int32.ofInt b).toInt
def xor32 (a b : Int) : Int := (Int32.ofInt a ^^^ Int32.ofInt b).toInt
def shl32 (a b : Int) : Int := (Int32.ofInt a <<< (Int32.ofInt b &&& 31)).toInt
def shr32 (a b : Int) : Int := (Int32.ofInt a >>> (Int32.ofInt b &&& 31)).toInt
def ushr32 (a b : Int) : Int := (((Int32.ofInt a).toUInt32 >>> ((Int32.ofInt b).toUInt32 &&& Int32.toUInt32 31)).toInt32).toInt
def and64 (a b : Int) : Int := (Int64.ofInt a &&& Int64.ofInt b).toInt
def or64 (a b : Int) : Int := (Int64.ofInt a ||| Int64.ofInt b).toInt
def xor64 (a b : Int) : Int := (Int64.ofInt a ^^^ Int64.ofInt b).toInt
def shl64 (a b : Int) : Int := (Int64.ofInt a <<< ((Int32.ofInt b).toInt64 &&& 63)).toInt
def shr64 (a b : Int) : Int := (Int64.ofInt a >>> ((Int32.ofInt b).toInt64 &&& 63)).toInt
def ushr64 (a b : Int) : Int := (((Int64.ofInt a).toUInt64 >>> ((Int32.ofInt b).toInt64.toUInt64 &&& Int64.toUInt64 63)).toInt64).toInt
def lcmp (a b : Int) : Int := if b < a then 1 else if a = b then 0 else -1
theorem lcmp_r (a b : Int) : r32 (lcmp a b) := by unfold lcmp r32; split; omega; split <;> omega
theorem o_lcmp {a b : Int} (ha : r64 a) (hb : r64 b) : Int32.ofInt (lcmp a b) = lg_cmp (Int64.ofInt a) (Int64.ofInt b) := by
  unfold lcmp lg_cmp
  simp only [gt_iff_lt, ol_lt hb ha, ol_eq ha hb]
  split
  · rfl
  · split
    · rfl
    · rfl
theorem nc_i {i : Int} (h : r32 i) (h0 : 0 ≤ i) : (Int32.ofInt i).toNatClampNeg = i.toNat := by
  unfold Int32.toNatClampNeg
  rw [oi_i h]
theorem vin_i {i : Int} {n : Nat} (h : r32 i) (h0 : 0 ≤ i ∧ i < n) : vp_in (Int32.ofInt i) n := by
  rw [vp_in_iff, oi_i h]
  exact h0
