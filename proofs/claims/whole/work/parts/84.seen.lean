/-! the yards that a walk has seen, bit by bit -/
theorem shr32_b (x : Int) {k : Nat} (hk : k < 32) : shr32 x k = ((BitVec.ofInt 32 x).sshiftRight k).toInt := by
  unfold shr32
  have e1 : Int32.ofInt k &&& 31 = Int32.ofInt k := by
    apply Int32.toBitVec_inj.mp
    rw [Int32.toBitVec_and, Int32.toBitVec_ofInt]
    have hc : ∀ j : Fin 32, (BitVec.ofInt 32 (j.val : Int) &&& (31 : Int32).toBitVec) = BitVec.ofInt 32 (j.val : Int) := by decide +kernel
    exact hc ⟨k, hk⟩
  have e2 : ∀ j : Fin 32, ((BitVec.ofInt 32 (j.val : Int)).smod 32).toNat = j.val := by decide +kernel
  rw [e1, ← Int32.toInt_toBitVec, Int32.toBitVec_shiftRight, Int32.toBitVec_ofInt, Int32.toBitVec_ofInt, BitVec.sshiftRight_eq', e2 ⟨k, hk⟩]
theorem bit_l (v : Int) {q : Nat} (hq : q < 32) : bit v q = 1 ↔ (BitVec.ofInt 32 v).getLsbD q = true := by
  unfold bit
  rw [and32_1, shr32_b v hq]
  have g : ((BitVec.ofInt 32 v).sshiftRight q).getLsbD 0 = (BitVec.ofInt 32 v).getLsbD q := by
    rw [BitVec.getLsbD_sshiftRight]
    simp [hq]
  rw [← g]
  generalize (BitVec.ofInt 32 v).sshiftRight q = X
  have g2 : X.getLsbD 0 = decide (X.toNat % 2 = 1) := Nat.testBit_zero X.toNat
  rw [g2, BitVec.toInt_eq_toNat_cond]
  constructor
  · intro h
    rw [decide_eq_true_eq]
    split at h <;> omega
  · intro h
    rw [decide_eq_true_eq] at h
    split <;> omega
theorem or32_b (a b : Int) : BitVec.ofInt 32 (or32 a b) = BitVec.ofInt 32 a ||| BitVec.ofInt 32 b := by
  unfold or32
  rw [← Int32.toInt_toBitVec, BitVec.ofInt_toInt, Int32.toBitVec_or, Int32.toBitVec_ofInt, Int32.toBitVec_ofInt]
theorem shl32_b {p : Nat} (hp : p < 32) : BitVec.ofInt 32 (shl32 1 p) = BitVec.twoPow 32 p := by
  have hc : ∀ j : Fin 32, BitVec.ofInt 32 (shl32 1 (j.val : Int)) = BitVec.twoPow 32 j.val := by decide +kernel
  exact hc ⟨p, hp⟩
theorem bit_orN (v : Int) {p q : Nat} (hp : p < 32) (hq : q < 32) : bit (or32 v (shl32 1 p)) q = 1 ↔ (p = q ∨ bit v q = 1) := by
  rw [bit_l _ hq, bit_l _ hq, or32_b, shl32_b hp, BitVec.getLsbD_or, BitVec.getLsbD_twoPow]
  simp [hp]
  exact or_comm
theorem bit_shN {p q : Nat} (hp : p < 32) (hq : q < 32) : bit (shl32 1 p) q = 1 ↔ p = q := by
  rw [bit_l _ hq, shl32_b hp, BitVec.getLsbD_twoPow]
  simp [hp]
theorem bit_orI (v : Int) {p q : Int} (hp : 0 ≤ p ∧ p < 8) (hq : 0 ≤ q ∧ q < 8) : bit (or32 v (shl32 1 p)) q = 1 ↔ (p = q ∨ bit v q = 1) := by
  obtain ⟨P, rfl⟩ := Int.eq_ofNat_of_zero_le hp.1
  obtain ⟨Q, rfl⟩ := Int.eq_ofNat_of_zero_le hq.1
  rw [bit_orN v (by omega) (by omega)]
  constructor
  · rintro (h | h)
    · exact Or.inl (by omega)
    · exact Or.inr h
  · rintro (h | h)
    · exact Or.inl (by omega)
    · exact Or.inr h
theorem bit_shI {p q : Int} (hp : 0 ≤ p ∧ p < 8) (hq : 0 ≤ q ∧ q < 8) : bit (shl32 1 p) q = 1 ↔ p = q := by
  obtain ⟨P, rfl⟩ := Int.eq_ofNat_of_zero_le hp.1
  obtain ⟨Q, rfl⟩ := Int.eq_ofNat_of_zero_le hq.1
  rw [bit_shN (by omega) (by omega)]
  omega
theorem seen {nx : Int → Int} {a d n : Int} (ha : 0 ≤ a ∧ a < n) (hn : n ≤ 8) (hx : ∀ y : Int, 0 ≤ y → y < n → nx y = -1 ∨ (0 ≤ nx y ∧ nx y < n)) : ∀ j : Nat, hops nx a d j → ∀ y : Int, 0 ≤ y ∧ y < 8 → (bit (wst nx a j).2 y = 1 ↔ ∃ s : Nat, s ≤ j ∧ (wst nx a s).1 = y)
  | 0, _, y, hy => by
    show bit (shl32 1 a) y = 1 ↔ _
    rw [bit_shI (by omega) hy]
    constructor
    · intro h; exact ⟨0, by omega, h⟩
    · rintro ⟨s, s1, s2⟩
      rw [show s = 0 by omega] at s2
      exact s2
  | j + 1, h, y, hy => by
    have hj := hops_ok ha hn hx j (fun i hi => h i (by omega))
    have hp := h j (by omega)
    have hb := (hx _ hj.1.1 hj.1.2).resolve_left hp.2.1
    have ih := seen ha hn hx j (fun i hi => h i (by omega)) y hy
    show bit (or32 (wst nx a j).2 (shl32 1 (nx (wst nx a j).1))) y = 1 ↔ _
    rw [bit_orI _ (by omega) hy, ih]
    constructor
    · rintro (q | ⟨s, s1, s2⟩)
      · exact ⟨j + 1, by omega, q⟩
      · exact ⟨s, by omega, s2⟩
    · rintro ⟨s, s1, s2⟩
      by_cases e : s = j + 1
      · rw [e] at s2; exact Or.inl s2
      · exact Or.inr ⟨s, by omega, s2⟩
theorem come_n {nx : Int → Int} {a d n : Int} (ha : 0 ≤ a ∧ a < n) (hn : n ≤ 8) (hx : ∀ y : Int, 0 ≤ y → y < n → nx y = -1 ∨ (0 ≤ nx y ∧ nx y < n)) {L : Nat} (h : hops nx a d L) : (L : Int) + 1 ≤ n := by
  have hp := (hops_ok ha hn hx L h).2.2
  have hs := seen ha hn hx L h
  have hz : ∀ y : Int, n ≤ y → y < 8 → bit (wst nx a L).2 y = 0 := fun y y1 y2 => by
    rcases bit_01 (wst nx a L).2 y with q | q
    · exact q
    · obtain ⟨s, s1, s2⟩ := (hs y ⟨by omega, y2⟩).mp q
      have := (hops_ok ha hn hx s (fun i hi => h i (by omega))).1
      omega
  have h0 := bit_01 (wst nx a L).2 0
  have h1 := bit_01 (wst nx a L).2 1
  have h2 := bit_01 (wst nx a L).2 2
  have h3 := bit_01 (wst nx a L).2 3
  have h4 := bit_01 (wst nx a L).2 4
  have h5 := bit_01 (wst nx a L).2 5
  have h6 := bit_01 (wst nx a L).2 6
  have h7 := bit_01 (wst nx a L).2 7
  have z1 : n ≤ 1 → bit (wst nx a L).2 1 = 0 := fun q => hz 1 q (by decide)
  have z2 : n ≤ 2 → bit (wst nx a L).2 2 = 0 := fun q => hz 2 q (by decide)
  have z3 : n ≤ 3 → bit (wst nx a L).2 3 = 0 := fun q => hz 3 q (by decide)
  have z4 : n ≤ 4 → bit (wst nx a L).2 4 = 0 := fun q => hz 4 q (by decide)
  have z5 : n ≤ 5 → bit (wst nx a L).2 5 = 0 := fun q => hz 5 q (by decide)
  have z6 : n ≤ 6 → bit (wst nx a L).2 6 = 0 := fun q => hz 6 q (by decide)
  have z7 : n ≤ 7 → bit (wst nx a L).2 7 = 0 := fun q => hz 7 q (by decide)
  clear hz hs h
  unfold pc at hp
  generalize bit (wst nx a L).2 0 = b0 at *
  generalize bit (wst nx a L).2 1 = b1 at *
  generalize bit (wst nx a L).2 2 = b2 at *
  generalize bit (wst nx a L).2 3 = b3 at *
  generalize bit (wst nx a L).2 4 = b4 at *
  generalize bit (wst nx a L).2 5 = b5 at *
  generalize bit (wst nx a L).2 6 = b6 at *
  generalize bit (wst nx a L).2 7 = b7 at *
  clear hx
  rcases (show n = 1 ∨ n = 2 ∨ n = 3 ∨ n = 4 ∨ n = 5 ∨ n = 6 ∨ n = 7 ∨ n = 8 by omega) with rfl | rfl | rfl | rfl | rfl | rfl | rfl | rfl <;> omega
/-- a walk that comes, told without what was seen -/
theorem come_0 {nx : Int → Int} {a d n : Int} (ha : 0 ≤ a ∧ a < n) (hn : n ≤ 8) (hx : ∀ y : Int, 0 ≤ y → y < n → nx y = -1 ∨ (0 ≤ nx y ∧ nx y < n)) {L : Nat} (h : ∀ i : Nat, i < L → ¬ (wst nx a i).1 = d ∧ ¬ nx (wst nx a i).1 = -1) (hd : (wst nx a L).1 = d) : Come nx a d L := by
  have key : ∀ k : Nat, k ≤ L → hops nx a d k := by
    intro k
    induction k with
    | zero => intro _ i hi; omega
    | succ k ih =>
      intro hk i hi
      have hh := ih (by omega)
      by_cases e : i = k
      · subst e
        have hi' := h i (by omega)
        refine ⟨hi'.1, hi'.2, ?_⟩
        have ho := hops_ok ha hn hx i hh
        have hb := (hx _ ho.1.1 ho.1.2).resolve_left hi'.2
        rcases bit_01 (wst nx a i).2 (nx (wst nx a i).1) with q | q
        · exact q
        · obtain ⟨s, s1, s2⟩ := (seen ha hn hx i hh _ (by omega)).mp q
          have per : ∀ t : Nat, (wst nx a (s + t)).1 = (wst nx a (i + 1 + t)).1 := by
            intro t
            induction t with
            | zero => exact s2
            | succ t iht =>
              show nx (wst nx a (s + t)).1 = nx (wst nx a (i + 1 + t)).1
              rw [iht]
          have p := per (L - (i + 1))
          rw [show i + 1 + (L - (i + 1)) = L by omega, hd] at p
          exact absurd p (h (s + (L - (i + 1))) (by omega)).1
      · exact hh i (by omega)
  exact ⟨key L (by omega), hd⟩
/-- the walk comes and never stands at c -/
def CP (nx : Int → Int) (a d c : Int) : Prop := ∃ L : Nat, Come nx a d L ∧ ∀ j : Nat, j ≤ L → ¬ (wst nx a j).1 = c
