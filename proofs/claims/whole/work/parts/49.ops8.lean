/-! land; bits -/
theorem mfill_r {m : Mem} {c lo hi v c' : Int} (h : ¬ c' = c) : mfill m c lo hi v c' = m c' := by
  funext i
  unfold mfill
  rw [if_neg (fun z => h z.1)]
theorem mfill_in {m : Mem} {c lo hi v i : Int} (h1 : lo ≤ i) (h2 : i < hi) : mfill m c lo hi v c i = v := by
  unfold mfill
  rw [if_pos ⟨rfl, h1, h2⟩]
theorem rel_beg {m m' : Mem} {n : Int} (hn1 : 2 ≤ n) (hn2 : n ≤ 8) (h : BegM (begC m n) m' n) : Rel m' := by
  unfold BegM at h
  obtain ⟨a1, a2, a3, a4, a5, a6, a7, a8, a9, a10, a11, a12, a13, p1, p2, p3, hc⟩ := h
  have s1 : m' 1 0 = n := by rw [hc 1 (by decide)]; unfold begC; simp only [mfill_r, mset_r, mset_s, rset_at, reduceIte, Int.reduceEq, not_false_eq_true]
  have s2 : ∀ i : Int, 0 ≤ i → i < 64 → m' 2 i = 10 := fun i i1 i2 => by rw [hc 2 (by decide)]; unfold begC; simp only [mfill_r, mset_r, mset_s, rset_at, reduceIte, Int.reduceEq, not_false_eq_true]; exact mfill_in i1 i2
  have s4 : m' 4 0 = 0 := by rw [hc 4 (by decide)]; unfold begC; simp only [mfill_r, mset_r, mset_s, rset_at, reduceIte, Int.reduceEq, not_false_eq_true]
  have s6 : m' 6 0 = 0 := by rw [hc 6 (by decide)]; unfold begC; simp only [mfill_r, mset_r, mset_s, rset_at, reduceIte, Int.reduceEq, not_false_eq_true]
  have s11 : ∀ i : Int, 0 ≤ i → i < 64 → m' 11 i = -1 := fun i i1 i2 => by rw [hc 11 (by decide)]; unfold begC; simp only [mfill_r, mset_r, mset_s, rset_at, reduceIte, Int.reduceEq, not_false_eq_true]; exact mfill_in i1 i2
  have s13 : m' 13 0 = 0 := by rw [hc 13 (by decide)]; unfold begC; simp only [mfill_r, mset_r, mset_s, rset_at, reduceIte, Int.reduceEq, not_false_eq_true]
  have s131 : m' 13 1 = 8 := by rw [hc 13 (by decide)]; unfold begC; simp only [mfill_r, mset_r, mset_s, rset_at, reduceIte, Int.reduceEq, not_false_eq_true]
  have s28 : m' 28 0 = 0 := by rw [hc 28 (by decide)]; unfold begC; simp only [mfill_r, mset_r, mset_s, rset_at, reduceIte, Int.reduceEq, not_false_eq_true]
  have s281 : m' 28 1 = 2 := by rw [hc 28 (by decide)]; unfold begC; simp only [mfill_r, mset_r, mset_s, rset_at, reduceIte, Int.reduceEq, not_false_eq_true]
  have s284 : m' 28 4 = 0 := by rw [hc 28 (by decide)]; unfold begC; simp only [mfill_r, mset_r, mset_s, rset_at, reduceIte, Int.reduceEq, not_false_eq_true]
  have s29 : ∀ i : Int, 0 ≤ i → i < 8 → m' 29 i = -1 := fun i i1 i2 => by rw [hc 29 (by decide)]; unfold begC; simp only [mfill_r, mset_r, mset_s, rset_at, reduceIte, Int.reduceEq, not_false_eq_true]; exact mfill_in i1 i2
  have s30 : ∀ i : Int, 0 ≤ i → i < 8 → m' 30 i = -1 := fun i i1 i2 => by rw [hc 30 (by decide)]; unfold begC; simp only [mfill_r, mset_r, mset_s, rset_at, reduceIte, Int.reduceEq, not_false_eq_true]; exact mfill_in i1 i2
  have s37 : m' 37 0 = 0 := by rw [hc 37 (by decide)]; unfold begC; simp only [mfill_r, mset_r, mset_s, rset_at, reduceIte, Int.reduceEq, not_false_eq_true]
  have s43 : m' 43 0 = 20 := by rw [hc 43 (by decide)]; unfold begC; simp only [mfill_r, mset_r, mset_s, rset_at, reduceIte, Int.reduceEq, not_false_eq_true]
  have s435 : m' 43 5 = 0 := by rw [hc 43 (by decide)]; unfold begC; simp only [mfill_r, mset_r, mset_s, rset_at, reduceIte, Int.reduceEq, not_false_eq_true]
  have s44 : ∀ i : Int, 0 ≤ i → i < 64 → m' 44 i = 0 := fun i i1 i2 => by rw [hc 44 (by decide)]; unfold begC; simp only [mfill_r, mset_r, mset_s, rset_at, reduceIte, Int.reduceEq, not_false_eq_true]; exact mfill_in i1 i2
  have s45 : ∀ i : Int, 0 ≤ i → i < 8 → m' 45 i = 2 := fun i i1 i2 => by rw [hc 45 (by decide)]; unfold begC; simp only [mfill_r, mset_r, mset_s, rset_at, reduceIte, Int.reduceEq, not_false_eq_true]; exact mfill_in i1 i2
  have s47 : m' 47 0 = 5 := by rw [hc 47 (by decide)]; unfold begC; simp only [mfill_r, mset_r, mset_s, rset_at, reduceIte, Int.reduceEq, not_false_eq_true]
  have s48 : ∀ i : Int, 0 ≤ i → i < 24 → m' 48 i = 0 := fun i i1 i2 => by rw [hc 48 (by decide)]; unfold begC; simp only [mfill_r, mset_r, mset_s, rset_at, reduceIte, Int.reduceEq, not_false_eq_true]; exact mfill_in i1 i2
  have s59 : m' 59 0 = 0 := by rw [hc 59 (by decide)]; unfold begC; simp only [mfill_r, mset_r, mset_s, rset_at, reduceIte, Int.reduceEq, not_false_eq_true]
  have s63 : m' 63 0 = 0 := by rw [hc 63 (by decide)]; unfold begC; simp only [mfill_r, mset_r, mset_s, rset_at, reduceIte, Int.reduceEq, not_false_eq_true]
  clear hc
  unfold Rel
  refine ⟨⟨by omega, by omega, by omega, fun a b q1 q2 q3 q4 q5 => ?_⟩, ⟨by omega, by omega, by omega, fun i i1 i2 => by omega⟩, ⟨by omega, by omega, by omega, fun i i1 i2 => by omega, fun a d q1 q2 q3 q4 => ?_⟩, ⟨by omega, by omega, by omega, by omega, by omega, by omega, fun i i1 i2 => by omega⟩, ⟨by omega, by omega, by omega, by omega, by omega, by omega, fun y y1 y2 => ?_, by omega, by omega, by omega, fun i i1 i2 => by omega⟩, ⟨by omega, by omega, by omega, fun i i1 i2 => by omega⟩, ⟨by omega, by omega, by omega, by omega, fun a d q1 q2 q3 q4 => ?_, fun y y1 y2 => ?_⟩, fun z => by omega, ⟨by omega, by omega, by omega, fun i i1 i2 => ?_⟩, ⟨by omega, by omega, by omega, fun i i1 i2 => by omega⟩, ⟨by omega, by omega, by omega⟩⟩
  · have u := (p1 (8 * a + b) (by omega) (by omega)).1
    have v := s2 (8 * a + b) (by omega) (by omega)
    rw [if_neg (by omega)] at u
    rw [u, v]
    omega
  · rw [s11 (8 * a + d) (by omega) (by omega), s6]
    rfl
  · have u := p2 y y1 y2
    have v := s29 y y1 y2
    have w := s30 y y1 y2
    omega
  · have u := (p1 (8 * a + d) (by omega) (by omega)).2
    have v := s44 (8 * a + d) (by omega) (by omega)
    omega
  · have u := p2 y y1 y2
    have v := s45 y y1 y2
    omega
  · have u := p3 i i1 i2
    have v := s48 i i1 i2
    omega
theorem op_land {m : Mem} (hR : Rel m) (n : Int) : wp_X10_land n m (fun r m1 => wp_X11_land n m1 (fun r2 m2 => r = r2 ∧ Rel m2)) := by
  have no : ¬ (2 ≤ n ∧ n ≤ 8) → wp_X11_land n m (fun r2 m2 => -102 = r2 ∧ Rel m2) := fun q => by
    unfold wp_X11_land
    exact sp_in (fun a b => absurd ⟨a, b⟩ q) (fun _ => n0 ⟨rfl, hR⟩)
  unfold wp_X10_land
  refine ⟨fun q => no (by omega), fun q => ⟨fun q2 => sp_X10_begin ?_, fun q2 => no (by omega)⟩⟩
  unfold wp_X11_land
  exact sp_in (fun a b => n1 (sp_X11_begin (fun m' hb => ⟨rfl, rel_beg a b hb⟩))) (fun z => absurd ⟨by omega, q2⟩ z)
theorem rel_start : wp_X10_begin 4 mz (fun m1 => (∀ n : Int, 67 ≤ n → ∀ j : Int, m1 n j = 0) ∧ wp_X11_begin 4 m1 (fun m2 => Rel m2)) := by
  refine sp_X10_begin ⟨fun n hn j => ?_, sp_X11_begin (fun m' hb => rel_beg (by decide) (by decide) hb)⟩
  have e : ∀ k : Int, k < 67 → ¬ n = k := fun k hk => by omega
  unfold begC
  rw [mset_r (e _ (by decide)), mset_r (e _ (by decide)), mfill_r (e _ (by decide)), mset_r (e _ (by decide)), mset_r (e _ (by decide)), mfill_r (e _ (by decide)), mfill_r (e _ (by decide)), mset_r (e _ (by decide)), mset_r (e _ (by decide)), mfill_r (e _ (by decide)), mfill_r (e _ (by decide)), mset_r (e _ (by decide)), mset_r (e _ (by decide)), mset_r (e _ (by decide)), mset_r (e _ (by decide)), mset_r (e _ (by decide)), mfill_r (e _ (by decide)), mset_r (e _ (by decide)), mset_r (e _ (by decide)), mset_r (e _ (by decide)), mfill_r (e _ (by decide)), mset_r (e _ (by decide))]
  rfl
theorem and32_255 (x : Int) : and32 x 255 = x % 256 := by
  unfold and32
  rw [← Int32.toInt_toBitVec, Int32.toBitVec_and, Int32.toBitVec_ofInt, Int32.toBitVec_ofInt]
  have h : (BitVec.ofInt 32 x &&& BitVec.ofInt 32 255).toNat = (x % 256).toNat := by
    rw [BitVec.toNat_and, BitVec.toNat_ofInt, show (BitVec.ofInt 32 255).toNat = 2 ^ 8 - 1 from rfl, Nat.and_two_pow_sub_one_eq_mod]
    omega
  rw [BitVec.toInt_eq_toNat_cond, h]
  rw [if_pos (by omega)]
  omega
theorem and32_1 (x : Int) : and32 x 1 = x % 2 := by
  unfold and32
  rw [← Int32.toInt_toBitVec, Int32.toBitVec_and, Int32.toBitVec_ofInt, Int32.toBitVec_ofInt]
  have h : (BitVec.ofInt 32 x &&& BitVec.ofInt 32 1).toNat = (x % 2).toNat := by
    rw [BitVec.toNat_and, BitVec.toNat_ofInt, show (BitVec.ofInt 32 1).toNat = 2 ^ 1 - 1 from rfl, Nat.and_two_pow_sub_one_eq_mod]
    omega
  rw [BitVec.toInt_eq_toNat_cond, h]
  rw [if_pos (by omega)]
  omega
theorem and64_255 (x : Int) : and64 x 255 = x % 256 := by
  unfold and64
  rw [← Int64.toInt_toBitVec, Int64.toBitVec_and, Int64.toBitVec_ofInt, Int64.toBitVec_ofInt]
  have h : (BitVec.ofInt 64 x &&& BitVec.ofInt 64 255).toNat = (x % 256).toNat := by
    rw [BitVec.toNat_and, BitVec.toNat_ofInt, show (BitVec.ofInt 64 255).toNat = 2 ^ 8 - 1 from rfl, Nat.and_two_pow_sub_one_eq_mod]
    omega
  rw [BitVec.toInt_eq_toNat_cond, h]
  rw [if_pos (by omega)]
  omega
theorem shr64_k {x : Int} (hx : r64 x) {k : Nat} (hk : k < 64) : shr64 x k = x / ((2 ^ k : Nat) : Int) := by
  unfold shr64
  have e1 : (Int32.ofInt k).toInt64 &&& 63 = Int64.ofInt k := by
    apply Int64.toBitVec_inj.mp
    rw [Int64.toBitVec_and, Int64.toBitVec_ofInt]
    have hc : ∀ j : Fin 64, ((Int32.ofInt (j.val : Int)).toInt64.toBitVec &&& (63 : Int64).toBitVec) = BitVec.ofInt 64 (j.val : Int) := by decide +kernel
    exact hc ⟨k, hk⟩
  have e2 : ∀ j : Fin 64, ((BitVec.ofInt 64 (j.val : Int)).smod 64).toNat = j.val := by decide +kernel
  rw [e1, ← Int64.toInt_toBitVec, Int64.toBitVec_shiftRight, Int64.toBitVec_ofInt, Int64.toBitVec_ofInt, BitVec.sshiftRight_eq', BitVec.toInt_sshiftRight, e2 ⟨k, hk⟩, Int.shiftRight_eq_div_pow]
  rw [show (BitVec.ofInt 64 x).toInt = x by rw [BitVec.toInt_ofInt]; rw [Int.bmod_def]; unfold r64 at hx; omega]
theorem shr32_k {x : Int} (hx : r32 x) {k : Nat} (hk : k < 32) : shr32 x k = x / ((2 ^ k : Nat) : Int) := by
  unfold shr32
  have e1 : Int32.ofInt k &&& 31 = Int32.ofInt k := by
    apply Int32.toBitVec_inj.mp
    rw [Int32.toBitVec_and, Int32.toBitVec_ofInt]
    have hc : ∀ j : Fin 32, (BitVec.ofInt 32 (j.val : Int) &&& (31 : Int32).toBitVec) = BitVec.ofInt 32 (j.val : Int) := by decide +kernel
    exact hc ⟨k, hk⟩
  have e2 : ∀ j : Fin 32, ((BitVec.ofInt 32 (j.val : Int)).smod 32).toNat = j.val := by decide +kernel
  rw [e1, ← Int32.toInt_toBitVec, Int32.toBitVec_shiftRight, Int32.toBitVec_ofInt, Int32.toBitVec_ofInt, BitVec.sshiftRight_eq', BitVec.toInt_sshiftRight, e2 ⟨k, hk⟩, Int.shiftRight_eq_div_pow]
  rw [show (BitVec.ofInt 32 x).toInt = x by rw [BitVec.toInt_ofInt]; rw [Int.bmod_def]; unfold r32 at hx; omega]
theorem ushr64_k {x : Int} {k : Nat} (hk : k < 64) : ushr64 x k = w64 ((x % 18446744073709551616) / ((2 ^ k : Nat) : Int)) := by
  unfold ushr64
  have e1 : ∀ j : Fin 64, ((Int32.ofInt (j.val : Int)).toInt64.toUInt64 &&& Int64.toUInt64 63).toNat % 64 = j.val := by decide +kernel
  rw [← Int64.toInt_toBitVec, UInt64.toBitVec_toInt64, w64_bmod]
  rw [BitVec.toInt_eq_toNat_bmod, UInt64.toNat_toBitVec, UInt64.toNat_shiftRight, e1 ⟨k, hk⟩, Nat.shiftRight_eq_div_pow]
  have e2 : (Int64.ofInt x).toUInt64.toNat = (x % 18446744073709551616).toNat := by
    show (Int64.ofInt x).toBitVec.toNat = _
    rw [Int64.toBitVec_ofInt, BitVec.toNat_ofInt]
    rfl
  rw [e2, Int.natCast_ediv, Int.toNat_of_nonneg (by omega)]
/-- the byte k of a long -/
def byt (x : Int) (k : Int) : Int := (x / ((2 ^ (8 * k.toNat) : Nat) : Int)) % 256
theorem byt_c (x : Int) {k : Int} (h0 : 0 ≤ k) (h8 : k < 8) : and32 (w32 (ushr64 x (w32 (8 * k)))) 255 = byt x k := by
  obtain ⟨j, rfl⟩ := Int.eq_ofNat_of_zero_le h0
  have e : w32 (8 * (j : Int)) = ((8 * j : Nat) : Int) := by unfold w32; omega
  rw [e, ushr64_k (by omega), and32_255]
  unfold byt w32 w64
  rcases (show j = 0 ∨ j = 1 ∨ j = 2 ∨ j = 3 ∨ j = 4 ∨ j = 5 ∨ j = 6 ∨ j = 7 by omega) with rfl | rfl | rfl | rfl | rfl | rfl | rfl | rfl <;> (simp only [Int.toNat_natCast, Nat.reduceMul, Nat.reducePow]; omega)
theorem byt_m {x : Int} (hx : r64 x) {k : Int} (h0 : 0 ≤ k) (h8 : k < 8) : w32 (and64 (shr64 x (w32 (8 * k))) 255) = byt x k := by
  obtain ⟨j, rfl⟩ := Int.eq_ofNat_of_zero_le h0
  have e : w32 (8 * (j : Int)) = ((8 * j : Nat) : Int) := by unfold w32; omega
  rw [e, shr64_k hx (by omega), and64_255]
  unfold byt w32
  rw [Int.toNat_natCast]
  omega
theorem byt_b {x : Int} (hx : r64 x) {k : Int} (h0 : 0 ≤ k) (h8 : k < 8) (h : byt x k ≤ 126) : w8 (w8 (w32 (shr64 x (w32 (8 * k))))) = byt x k := by
  obtain ⟨j, rfl⟩ := Int.eq_ofNat_of_zero_le h0
  have e : w32 (8 * (j : Int)) = ((8 * j : Nat) : Int) := by unfold w32; omega
  rw [e, shr64_k hx (by omega)]
  unfold byt at h ⊢
  rw [Int.toNat_natCast] at h ⊢
  unfold w8 w32
  omega
theorem byt_r (x k : Int) : 0 ≤ byt x k ∧ byt x k < 256 := by unfold byt; omega
/-- a word of r codes -/
def lgood (x r : Int) : Prop := 0 ≤ r ∧ r ≤ 8 ∧ (∀ j : Int, 0 ≤ j → j < r → 1 ≤ byt x j ∧ byt x j ≤ 126) ∧ ∀ j : Int, r ≤ j → j < 8 → byt x j = 0
theorem lbad1 {x i : Int} (h0 : 0 ≤ i) (h8 : i < 8) (h : 126 < byt x i) (r : Int) : ¬ lgood x r := by
  rintro ⟨a, b, c, d⟩
  by_cases hi : i < r
  · have := c i h0 hi; omega
  · have := d i (by omega) h8; omega
theorem lbad2 {x c i : Int} (h0 : 0 ≤ c) (hc : c < i) (h8 : i < 8) (h : byt x c = 0) (h2 : ¬ byt x i = 0) (r : Int) : ¬ lgood x r := by
  rintro ⟨a, b, g, d⟩
  by_cases hi : c < r
  · have := g c h0 hi; omega
  · exact h2 (d i (by omega) h8)
theorem sp_lettersIn {x : Int} {m : Mem} {post : Int → Mem → Prop} (h1 : ∀ r : Int, lgood x r → post r m) (h0 : (∀ r : Int, ¬ lgood x r) → post (-1) m) : wp_X6_lettersIn x m post := by
  have key : ∀ (k : Nat) (c i : Int), i + k = 8 → 0 ≤ c → c ≤ i → (∀ j : Int, 0 ≤ j → j < c → 1 ≤ byt x j ∧ byt x j ≤ 126) → (∀ j : Int, c ≤ j → j < i → byt x j = 0) → wp_X6_lettersIn_4 post (k + 1) x c i m := by
    intro k
    induction k with
    | zero => intro c i hk q1 q2 q3 q4; unfold wp_X6_lettersIn_4; exact bt (by omega) (h1 c ⟨q1, by omega, q3, fun j j1 j2 => q4 j j1 (by omega)⟩)
    | succ k ih =>
      intro c i hk q1 q2 q3 q4
      unfold wp_X6_lettersIn_4
      refine bf (by omega) (eqm ?_)
      rw [byt_c x (by omega) (by omega)]
      have hb := byt_r x i
      refine ⟨fun e => h0 (lbad1 (by omega) (by omega) e), fun e => ⟨fun z => ?_, fun z => ⟨fun w => ?_, fun w => h0 (lbad2 q1 (by omega) (by omega) (q4 c (by omega) (by omega)) z)⟩⟩⟩
      · unfold wp_X6_lettersIn_42
        refine bt z (eqm ?_)
        rw [w32_i (by omega), w32_i (by omega)]
        refine ih (c + 0) (i + 1) (by omega) (by omega) (by omega) (fun j j1 j2 => q3 j j1 (by omega)) (fun j j1 j2 => ?_)
        by_cases hj : j = i
        · rw [hj]; exact z
        · exact q4 j (by omega) (by omega)
      · have hci : c = i := by omega
        subst hci
        unfold wp_X6_lettersIn_42
        refine bf z (eqm ?_)
        rw [w32_i (by omega)]
        refine ih (c + 1) (c + 1) (by omega) (by omega) (by omega) (fun j j1 j2 => ?_) (fun j j1 j2 => by omega)
        by_cases hj : j = c
        · rw [hj]; omega
        · exact q3 j (by omega) (by omega)
  exact ⟨9, key 8 0 0 (by omega) (by omega) (by omega) (fun j j1 j2 => by omega) (fun j j1 j2 => by omega)⟩
theorem sp_X11_scan {x : Int} (hx : r64 x) {m : Mem} {K : Int → Int → Mem → Prop} {post : Int → Mem → Prop} (h1 : ∀ r : Int, lgood x r → K x r m) (h0 : (∀ r : Int, ¬ lgood x r) → post (-102) m) : wp_X11_letters_8 K post 9 x 0 0 0 m := by
  have key : ∀ (k : Nat) (c f i : Int), i + k = 8 → 0 ≤ c → c ≤ i → ((f = 0 ∧ c = i) ∨ (f = 1 ∧ c < i)) → (∀ j : Int, 0 ≤ j → j < c → 1 ≤ byt x j ∧ byt x j ≤ 126) → (∀ j : Int, c ≤ j → j < i → byt x j = 0) → wp_X11_letters_8 K post (k + 1) x c f i m := by
    intro k
    induction k with
    | zero => intro c f i hk q1 q2 qf q3 q4; unfold wp_X11_letters_8; exact bt (by omega) (h1 c ⟨q1, by omega, q3, fun j j1 j2 => q4 j j1 (by omega)⟩)
    | succ k ih =>
      intro c f i hk q1 q2 qf q3 q4
      unfold wp_X11_letters_8
      refine bf (by omega) (eqm ?_)
      rw [byt_m hx (by omega) (by omega)]
      have hb := byt_r x i
      have zz : byt x i = 0 → wp_X11_letters_8 K post (k + 1) x (c + 0) 1 (i + 1) m := fun z => by
        refine ih (c + 0) 1 (i + 1) (by omega) (by omega) (by omega) (by omega) (fun j j1 j2 => q3 j j1 (by omega)) (fun j j1 j2 => ?_)
        by_cases hj : j = i
        · rw [hj]; exact z
        · exact q4 j (by omega) (by omega)
      have z59 : byt x i = 0 → wp_X11_letters_59 x c i (byt x i) m (fun v1_8 v3_8 v4_8 v5_8 m_8 => wp_X11_letters_8 K post (k + 1) v1_8 v3_8 v4_8 v5_8 m_8) post := fun z => by
        unfold wp_X11_letters_59 wp_X11_letters_64
        refine nf z (eqm ?_)
        rw [w32_i (by omega), w32_i (by omega)]
        exact zz z
      refine ⟨fun e => h0 (lbad1 (by omega) (by omega) e), fun e => ?_⟩
      rcases qf with ⟨rfl, hc⟩ | ⟨rfl, hc⟩
      · refine z0 ?_
        unfold wp_X11_letters_49
        refine n0 ⟨fun z => ?_, fun z => z59 z⟩
        subst hc
        unfold wp_X11_letters_64
        refine nt z (eqm ?_)
        rw [w32_i (by omega)]
        refine ih (c + 1) 0 (c + 1) (by omega) (by omega) (by omega) (by omega) (fun j j1 j2 => ?_) (fun j j1 j2 => by omega)
        by_cases hj : j = c
        · rw [hj]; omega
        · exact q3 j (by omega) (by omega)
      · refine z1 ⟨fun z => ?_, fun z => h0 (lbad2 q1 hc (by omega) (q4 c (by omega) (by omega)) z)⟩
        unfold wp_X11_letters_49
        exact n1 (z59 z)
  exact key 8 0 0 0 (by omega) (by omega) (by omega) (by omega) (fun j j1 j2 => by omega) (fun j j1 j2 => by omega)
theorem sp_X6_write {x r : Int} {m : Mem} {post : Mem → Prop} (hr : 0 ≤ r ∧ r ≤ 8) (hm : 0 ≤ m 4 0 ∧ m 4 0 + r ≤ 40) (h : ∀ m' : Mem, m' 4 0 = m 4 0 + r → (∀ j : Int, 0 ≤ j → j < r → m' 5 (m 4 0 + j) = byt x j) → (∀ c i : Int, ¬ ((c = 4 ∧ i = 0) ∨ (c = 5 ∧ m 4 0 ≤ i)) → m' c i = m c i) → post m') : wp_X6_write x r m post := by
  have key : ∀ (k : Nat) (i : Int) (m1 : Mem), i + k = r → 0 ≤ i → m1 4 0 = m 4 0 + i → (∀ j : Int, 0 ≤ j → j < i → m1 5 (m 4 0 + j) = byt x j) → (∀ c i : Int, ¬ ((c = 4 ∧ i = 0) ∨ (c = 5 ∧ m 4 0 ≤ i)) → m1 c i = m c i) → wp_X6_write_3 post (k + 1) x r i m1 := by
    intro k
    induction k with
    | zero => intro i m1 hk q0 q1 q2 q3; unfold wp_X6_write_3; exact bt (by omega) (h m1 (by omega) (fun j j1 j2 => q2 j j1 (by omega)) q3)
    | succ k ih =>
      intro i m1 hk q0 q1 q2 q3
      unfold wp_X6_write_3
      refine bf (by omega) (bf (by omega) ⟨by omega, eqm (eqm ?_)⟩)
      rw [byt_c x (by omega) (by omega), w32_i (x := i + 1) (by omega)]
      refine ih (i + 1) _ (by omega) (by omega) ?_ (fun j j1 j2 => ?_) (fun c i' q => ?_)
      · simp only [mset_r, mset_s, rset_at, reduceIte, Int.reduceEq, not_false_eq_true]
        rw [w32_i (by omega)]; omega
      · simp only [mset_r, mset_s, rset_at, reduceIte, Int.reduceEq, not_false_eq_true]
        rw [q1]
        by_cases hj : j = i
        · rw [if_pos (by omega), hj]
        · rw [if_neg (by omega)]; exact q2 j j1 (by omega)
      · rw [mset_ne (by omega), mset_ne (by omega)]
        exact q3 c i' q
  exact ⟨r.toNat + 1, key r.toNat 0 m (by omega) (by omega) (by omega) (fun j j1 j2 => by omega) (fun c i _ => rfl)⟩
theorem sp_X11_write {x r : Int} (hx : r64 x) (hg : lgood x r) {m : Mem} {K : Int → Mem → Prop} {post : Int → Mem → Prop} (hm : 0 ≤ m 67 2 ∧ m 67 2 + r ≤ 40) (h : ∀ m' : Mem, (∀ j : Int, 0 ≤ j → j < r → m' 69 (m 67 2 + j) = byt x j) → (∀ c i : Int, ¬ (c = 69 ∧ m 67 2 ≤ i) → m' c i = m c i) → K r m') : ∃ n : Nat, wp_X11_letters_102 K post n x r 0 m := by
  obtain ⟨hr1, hr2, hg1, hg2⟩ := hg
  have key : ∀ (k : Nat) (i : Int) (m1 : Mem), i + k = r → 0 ≤ i → (∀ j : Int, 0 ≤ j → j < i → m1 69 (m 67 2 + j) = byt x j) → (∀ c i : Int, ¬ (c = 69 ∧ m 67 2 ≤ i) → m1 c i = m c i) → wp_X11_letters_102 K post (k + 1) x r i m1 := by
    intro k
    induction k with
    | zero => intro i m1 hk q0 q2 q3; unfold wp_X11_letters_102; exact bt (by omega) (h m1 (fun j j1 j2 => q2 j j1 (by omega)) q3)
    | succ k ih =>
      intro i m1 hk q0 q2 q3
      unfold wp_X11_letters_102
      have e := q3 67 2 (by omega)
      have hb := hg1 i q0 (by omega)
      rw [e, w32_i (x := m 67 2 + i) (by omega)]
      refine bf (by omega) ⟨by omega, eqm ?_⟩
      rw [byt_b hx (by omega) (by omega) (by omega), w32_i (x := i + 1) (by omega)]
      refine ih (i + 1) _ (by omega) (by omega) (fun j j1 j2 => ?_) (fun c i' q => ?_)
      · simp only [mset_r, mset_s, rset_at, reduceIte, Int.reduceEq, not_false_eq_true]
        by_cases hj : j = i
        · rw [if_pos (by omega), hj]
        · rw [if_neg (by omega)]; exact q2 j j1 (by omega)
      · rw [mset_ne (by omega)]
        exact q3 c i' q
  exact ⟨r.toNat + 1, key r.toNat 0 m (by omega) (by omega) (fun j j1 j2 => by omega) (fun c i _ => rfl)⟩
theorem Rel.page {m m' : Mem} (hR : Rel m) (hv : ∀ c i : Int, ¬ ((c = 4 ∧ i = 0) ∨ c = 5 ∨ (c = 67 ∧ i = 2) ∨ c = 69) → m' c i = m c i) (hp : RPage (m' 4 0) (m' 67 2) (m' 5) (m' 69)) : Rel m' := by
  have hr : ∀ c : Int, (∀ i : Int, ¬ ((c = 4 ∧ i = 0) ∨ c = 5 ∨ (c = 67 ∧ i = 2) ∨ c = 69)) → m' c = m c := fun c hc => funext fun i => hv c i (hc i)
  obtain ⟨h1, h2, h3, h4, h5, h6, h7, h8, h9, h10, h11⟩ := hR
  have g1 : RLand (m' 1 0) (m' 67 0) (m' 2) (m' 68) := by rw [hv 1 0 (by omega), hv 67 0 (by omega), hr 2 (fun i => by omega), hr 68 (fun i => by omega)]; exact h1
  have g3 : RBlk (m' 1 0) (m' 6 0) (m' 67 4) (m' 7) (m' 8) (m' 9) (m' 10) (m' 70) (m' 71) (m' 72) (m' 73) (m' 11) := by rw [hv 1 0 (by omega), hv 6 0 (by omega), hv 67 4 (by omega), hr 7 (fun i => by omega), hr 8 (fun i => by omega), hr 9 (fun i => by omega), hr 10 (fun i => by omega), hr 70 (fun i => by omega), hr 71 (fun i => by omega), hr 72 (fun i => by omega), hr 73 (fun i => by omega), hr 11 (fun i => by omega)]; exact h3
  have g4 : RTrn (m' 6 0) (m' 28 0) (m' 13 0) (m' 67 9) (m' 13 1) (m' 67 19) (m' 14) (m' 15) (m' 16) (m' 17) (m' 18) (m' 19) (m' 20) (m' 21) (m' 22) (m' 23) (m' 24) (m' 25) (m' 26) (m' 7) (m' 8) (m' 74) (m' 75) (m' 76) := by rw [hv 6 0 (by omega), hv 28 0 (by omega), hv 13 0 (by omega), hv 67 9 (by omega), hv 13 1 (by omega), hv 67 19 (by omega), hr 14 (fun i => by omega), hr 15 (fun i => by omega), hr 16 (fun i => by omega), hr 17 (fun i => by omega), hr 18 (fun i => by omega), hr 19 (fun i => by omega), hr 20 (fun i => by omega), hr 21 (fun i => by omega), hr 22 (fun i => by omega), hr 23 (fun i => by omega), hr 24 (fun i => by omega), hr 25 (fun i => by omega), hr 26 (fun i => by omega), hr 7 (fun i => by omega), hr 8 (fun i => by omega), hr 74 (fun i => by omega), hr 75 (fun i => by omega), hr 76 (fun i => by omega)]; exact h4
  have g5 : RTrf (m' 1 0) (m' 13 0) (m' 28 0) (m' 67 18) (m' 28 1) (m' 67 15) (m' 28 4) (m' 67 13) (m' 29) (m' 30) (m' 78) (m' 79) (m' 31) (m' 32) (m' 33) (m' 34) (m' 35) (m' 36) (m' 77) (m' 76) := by rw [hv 1 0 (by omega), hv 13 0 (by omega), hv 28 0 (by omega), hv 67 18 (by omega), hv 28 1 (by omega), hv 67 15 (by omega), hv 28 4 (by omega), hv 67 13 (by omega), hr 29 (fun i => by omega), hr 30 (fun i => by omega), hr 78 (fun i => by omega), hr 79 (fun i => by omega), hr 31 (fun i => by omega), hr 32 (fun i => by omega), hr 33 (fun i => by omega), hr 34 (fun i => by omega), hr 35 (fun i => by omega), hr 36 (fun i => by omega), hr 77 (fun i => by omega), hr 76 (fun i => by omega)]; exact h5
  have g6 : RRow (m' 37 0) (m' 67 20) (m' 40) (m' 80) := by rw [hv 37 0 (by omega), hv 67 20 (by omega), hr 40 (fun i => by omega), hr 80 (fun i => by omega)]; exact h6
  have g7 : RNet (m' 43 0) (m' 67 24) (m' 43 5) (m' 44) (m' 81) (m' 45) (m' 82) := by rw [hv 43 0 (by omega), hv 67 24 (by omega), hv 43 5 (by omega), hr 44 (fun i => by omega), hr 81 (fun i => by omega), hr 45 (fun i => by omega), hr 82 (fun i => by omega)]; exact h7
  have g8 : (m' 43 5) = 1 → (m' 1 0) ≤ 4 → NBr (m' 67 0) (m' 67 24) (m' 43 3) (m' 43 4) (m' 68) (m' 81) (m' 82) := by rw [hv 43 5 (by omega), hv 1 0 (by omega), hv 67 0 (by omega), hv 67 24 (by omega), hv 43 3 (by omega), hv 43 4 (by omega), hr 68 (fun i => by omega), hr 81 (fun i => by omega), hr 82 (fun i => by omega)]; exact h8
  have g9 : REmp (m' 47 0) (m' 67 25) (m' 48) (m' 83) := by rw [hv 47 0 (by omega), hv 67 25 (by omega), hr 48 (fun i => by omega), hr 83 (fun i => by omega)]; exact h9
  have g10 : RLeg (m' 59 0) (m' 67 27) (m' 60) (m' 61) (m' 84) (m' 85) := by rw [hv 59 0 (by omega), hv 67 27 (by omega), hr 60 (fun i => by omega), hr 61 (fun i => by omega), hr 84 (fun i => by omega), hr 85 (fun i => by omega)]; exact h10
  have g11 : RDet (m' 63 0) (m' 67 30) := by rw [hv 63 0 (by omega), hv 67 30 (by omega)]; exact h11
  exact ⟨g1, hp, g3, g4, g5, g6, g7, g8, g9, g10, g11⟩
theorem lgood_u {x r s : Int} (h : lgood x r) (g : lgood x s) : r = s := by
  obtain ⟨a, b, c, d⟩ := h
  obtain ⟨a', b', c', d'⟩ := g
  rcases Int.lt_trichotomy r s with z | z | z
  · have := c' r a z; have := d r (by omega) (by omega); omega
  · exact z
  · have := c s a' z; have := d' s (by omega) (by omega); omega
theorem op_letters {m : Mem} (hR : Rel m) {x : Int} (hx : r64 x) : wp_X10_letters x m (fun r m1 => wp_X11_letters x m1 (fun r2 m2 => r = r2 ∧ Rel m2)) := by
  obtain ⟨p1, p2, p3, p4⟩ := hR.2.1
  unfold wp_X10_letters
  refine sp_lettersIn (fun r hg => ?_) (fun no => nf rfl ?_)
  · refine nt (by have := hg.1; omega) ?_
    have hr1 := hg.1
    have hr2 := hg.2.1
    rw [w32_i (by omega)]
    refine ⟨fun q => sp_X6_write ⟨hr1, hr2⟩ ⟨by omega, q⟩ (fun m1 a1 a2 a3 => ?_), fun q => ?_⟩
    · unfold wp_X11_letters
      refine ⟨9, sp_X11_scan hx (fun s hs => ?_) (fun no => absurd hg (no r))⟩
      have e : s = r := lgood_u hs hg
      subst e
      have e2 : m1 67 2 = m 67 2 := a3 67 2 (by omega)
      have e3 : m1 69 = m 69 := funext fun i => a3 69 i (by omega)
      refine bt (by rw [e2, w32_i (by omega)]; omega) (sp_X11_write hx hg (by omega) (fun m2 b1 b2 => eqm ?_))
      have e4 : m2 67 2 = m 4 0 := by rw [b2 67 2 (by omega)]; omega
      have e5 : w32 (m2 67 2 + s) = m 4 0 + s := by rw [w32_i (by omega)]; omega
      rw [e5, mset_same]
      refine ⟨a1, Rel.page hR (fun c i q => ?_) ?_⟩
      · rw [mset_ne (by omega), b2 c i (by omega), a3 c i (by omega)]
      · simp only [mset_r, mset_s, rset_at, reduceIte, Int.reduceEq, not_false_eq_true]
        rw [b2 4 0 (by omega)]
        refine ⟨by omega, by omega, by omega, fun i i1 i2 => ?_⟩
        rw [b2 5 i (by omega)]
        by_cases hi : i < m 4 0
        · rw [b2 69 i (by omega), e3, a3 5 i (by omega)]
          exact p4 i i1 hi
        · have u1 := a2 (i - m 4 0) (by omega) (by omega)
          have u2 := b1 (i - m 4 0) (by omega) (by omega)
          have u3 := hg.2.2.1 (i - m 4 0) (by omega) (by omega)
          rw [show m 4 0 + (i - m 4 0) = i by omega] at u1
          rw [show m1 67 2 + (i - m 4 0) = i by omega] at u2
          omega
    · unfold wp_X11_letters
      refine ⟨9, sp_X11_scan hx (fun s hs => ?_) (fun no => absurd hg (no r))⟩
      have e : s = r := lgood_u hs hg
      subst e
      exact bf (by rw [w32_i (by omega)]; omega) ⟨rfl, hR⟩
  · unfold wp_X11_letters
    exact ⟨9, sp_X11_scan hx (fun s hs => absurd hs (no s)) (fun _ => ⟨rfl, hR⟩)⟩
