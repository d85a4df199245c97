/-! the best net -/
theorem and64_r (a b : Int) : r64 (and64 a b) := by
  unfold r64 and64
  have h1 := Int64.le_toInt (Int64.ofInt a &&& Int64.ofInt b)
  have h2 := Int64.toInt_lt (Int64.ofInt a &&& Int64.ofInt b)
  omega
theorem and64_b (a b : Int) : BitVec.ofInt 64 (and64 a b) = BitVec.ofInt 64 a &&& BitVec.ofInt 64 b := by
  unfold and64
  rw [← Int64.toInt_toBitVec, BitVec.ofInt_toInt, Int64.toBitVec_and, Int64.toBitVec_ofInt, Int64.toBitVec_ofInt]
theorem and64_z (a b : Int) : and64 a b = 0 ↔ BitVec.ofInt 64 a &&& BitVec.ofInt 64 b = 0#64 := by
  rw [← and64_b]
  have hr := and64_r a b
  unfold r64 at hr
  constructor
  · intro h; rw [h]; rfl
  · intro h
    have e : (BitVec.ofInt 64 (and64 a b)).toInt = 0 := by rw [h]; rfl
    rw [BitVec.toInt_ofInt, Int.bmod_def] at e
    omega
theorem An_and {n : Nat} {v : Int} (h : An n v) (u : Int) : An n (and64 v u) := by
  unfold An at h ⊢
  rw [and64_z] at h ⊢
  rw [and64_b, BitVec.and_assoc, BitVec.and_comm (BitVec.ofInt 64 u), ← BitVec.and_assoc, h]
  simp
def gN4 (c : Int) : Int := 0 + (2 * (c / 1 % 8)) * 1 + ((c / 8 % 8) % 2 + (c / 8 % 8) / 2 * 4) * 256 + ((c / 64 % 8) % 4 + (c / 64 % 8) / 4 * 8) * 65536 + (c / 512 % 8) * 16777216
theorem an4_v : xor64 (an 4) (-1) = -118164751 := by decide +kernel
theorem nC_a4' : ∀ i j : Fin 64, and64 (gN4 (64 * (i.val : Int) + (j.val : Int))) (-118164751) = 0 := by decide +kernel
theorem f64 {P : Int → Prop} (h : ∀ i j : Fin 64, P (64 * (i.val : Int) + (j.val : Int))) {c : Int} (hc : 0 ≤ c ∧ c < 4096) : P c := by
  have := h ⟨(c / 64).toNat, by omega⟩ ⟨(c % 64).toNat, by omega⟩
  rw [show (64 * ((⟨(c / 64).toNat, by omega⟩ : Fin 64).val : Int) + ((⟨(c % 64).toNat, by omega⟩ : Fin 64).val : Int)) = c by show 64 * (((c / 64).toNat : Nat) : Int) + (((c % 64).toNat : Nat) : Int) = c; omega] at this
  exact this
theorem nC_a4 {c : Int} (hc : 0 ≤ c ∧ c < 4096) : and64 (gN4 c) (-118164751) = 0 := f64 (P := fun c => and64 (gN4 c) (-118164751) = 0) nC_a4' hc
theorem nC_a3 : ∀ j : Fin 64, and64 (nC 3 (j.val : Int)) (xor64 (an 3) (-1)) = 0 := by decide +kernel
theorem nC_a2 : ∀ j : Fin 4, and64 (nC 2 (j.val : Int)) (xor64 (an 2) (-1)) = 0 := by decide +kernel
theorem nC_A {n : Nat} (hn : 2 ≤ n ∧ n ≤ 4) {c : Int} (hc : 0 ≤ c ∧ c < 2 ^ (n * (n - 1))) : An n (nC n c) ∧ 0 ≤ nC n c ∧ nC n c < 4294967296 := by
  rcases (show n = 2 ∨ n = 3 ∨ n = 4 by omega) with rfl | rfl | rfl
  · have hc' : 0 ≤ c ∧ c < 4 := hc
    have e := nC_a2 ⟨c.toNat, by omega⟩
    rw [show ((⟨c.toNat, by omega⟩ : Fin 4).val : Int) = c from Int.toNat_of_nonneg hc.1] at e
    refine ⟨e, ?_⟩
    rw [nC_2 hc']; omega
  · have hc' : 0 ≤ c ∧ c < 64 := hc
    have e := nC_a3 ⟨c.toNat, by omega⟩
    rw [show ((⟨c.toNat, by omega⟩ : Fin 64).val : Int) = c from Int.toNat_of_nonneg hc.1] at e
    refine ⟨e, ?_⟩
    rw [nC_3 hc']; omega
  · have hc' : 0 ≤ c ∧ c < 4096 := hc
    have e := nC_a4 hc'
    have f : nC 4 c = gN4 c := nC_4 hc'
    refine ⟨?_, ?_⟩
    · unfold An; rw [an4_v, f]; exact e
    · rw [nC_4 hc']; omega
def popP (v : Int) : Prop := (v = 0 ∨ bcl (and64 v (w64 (v - 1))) + 1 = bcl v) ∧ 0 ≤ bcl v ∧ bcl v ≤ 12
theorem pop4 : ∀ i j : Fin 64, (gN4 (64 * (i.val : Int) + (j.val : Int)) = 0 ∨ bcl (and64 (gN4 (64 * (i.val : Int) + (j.val : Int))) (w64 (gN4 (64 * (i.val : Int) + (j.val : Int)) - 1))) + 1 = bcl (gN4 (64 * (i.val : Int) + (j.val : Int)))) ∧ 0 ≤ bcl (gN4 (64 * (i.val : Int) + (j.val : Int))) ∧ bcl (gN4 (64 * (i.val : Int) + (j.val : Int))) ≤ 12 := by decide +kernel
theorem pop_A {n : Nat} (hn : 2 ≤ n ∧ n ≤ 4) {v : Int} (hv : r64 v) (hA : An n v) : (v = 0 ∨ bcl (and64 v (w64 (v - 1))) + 1 = bcl v) ∧ 0 ≤ bcl v ∧ bcl v ≤ 12 := by
  obtain ⟨r0, r1, r2, r3, hr⟩ := an_row hn hv hA
  obtain ⟨c, c0, c1, e⟩ := row_c4 hr
  have f : nC 4 c = gN4 c := nC_4 ⟨c0, c1⟩
  have p := f64 (P := fun c => popP (gN4 c)) pop4 ⟨c0, c1⟩
  rw [← f, e] at p
  exact p
theorem sp_onesA {n : Nat} (hn : 2 ≤ n ∧ n ≤ 4) {v : Int} (hv : r64 v) (hA : An n v) {m : Mem} {post : Int → Mem → Prop} (H : post (bcl v) m) : wp_X11_ones v m post := by
  have hv12 := (pop_A hn hv hA).2
  have b0 : bcl 0 = 0 := by decide +kernel
  have key : ∀ (k : Nat) (c x : Int), r64 x → An n x → bcl x ≤ k → 0 ≤ c → c + bcl x = bcl v → wp_X11_ones_4 post (k + 1) c x m := by
    intro k
    induction k with
    | zero =>
      intro c x hx hAx hk hc he
      have p := pop_A hn hx hAx
      have pw := pop_A hn (and64_r x (w64 (x - 1))) (An_and hAx _)
      have hx0 : x = 0 := by omega
      unfold wp_X11_ones_4
      refine bt (by rw [hx0]; decide) ?_
      rw [show c = bcl v by rw [hx0, b0] at he; omega]
      exact H
    | succ k ih =>
      intro c x hx hAx hk hc he
      have p := pop_A hn hx hAx
      have pw := pop_A hn (and64_r x (w64 (x - 1))) (An_and hAx (w64 (x - 1)))
      unfold wp_X11_ones_4
      by_cases z : x = 0
      · refine bt (by rw [z]; decide) ?_
        rw [show c = bcl v by rw [z, b0] at he; omega]
        exact H
      · refine bf (by rw [lcmp_0]; exact z) (eqm ?_)
        rw [w32_i (by omega)]
        exact ih (c + 1) _ (and64_r _ _) (An_and hAx _) (by omega) (by omega) (by omega)
  exact ⟨13, key 12 0 v hv hA (by omega) (by omega) (by omega)⟩
/-- the best of those for which P holds: least cost, fewest blocks, least number -/
def Best (P : Int → Prop) (ct : Int → Int) (bc bn : Int) : Prop := (bc = -1 ∧ bn = -1 ∧ ∀ v : Int, P v → ct v = -1) ∨ (bc ≠ -1 ∧ P bn ∧ ct bn = bc ∧ ∀ v : Int, P v → ct v ≠ -1 → (bc < ct v ∨ (bc = ct v ∧ (bcl bn < bcl v ∨ (bcl bn = bcl v ∧ bn ≤ v)))))
theorem best_cg {P Q : Int → Prop} (h : ∀ v : Int, P v ↔ Q v) {ct : Int → Int} {bc bn : Int} (hB : Best P ct bc bn) : Best Q ct bc bn := by
  rcases hB with ⟨a, b, c⟩ | ⟨a, b, c, d⟩
  · exact Or.inl ⟨a, b, fun v q => c v ((h v).mpr q)⟩
  · exact Or.inr ⟨a, (h bn).mp b, c, fun v q => d v ((h v).mpr q)⟩
theorem best_u {P : Int → Prop} {ct : Int → Int} {bc bn bc' bn' : Int} (h : Best P ct bc bn) (h' : Best P ct bc' bn') : bc = bc' ∧ bn = bn' := by
  rcases h with ⟨a, b, c⟩ | ⟨a, b, c, d⟩
  · rcases h' with ⟨a', b', c'⟩ | ⟨a', b', c', d'⟩
    · exact ⟨by omega, by omega⟩
    · have := c bn' b'; omega
  · rcases h' with ⟨a', b', c'⟩ | ⟨a', b', c', d'⟩
    · have := c' bn b; omega
    · have g1 := d bn' b' (by omega)
      have g2 := d' bn b (by omega)
      omega
theorem best_k {P P' : Int → Prop} {v0 : Int} (h : ∀ v : Int, P' v ↔ (P v ∨ v = v0)) {ct : Int → Int} {bc bn : Int} (hB : Best P ct bc bn) (hk : ct v0 = -1 ∨ (bc ≠ -1 ∧ (bc < ct v0 ∨ (bc = ct v0 ∧ (bcl bn < bcl v0 ∨ (bcl bn = bcl v0 ∧ bn ≤ v0)))))) : Best P' ct bc bn := by
  rcases hB with ⟨a, b, c⟩ | ⟨a, b, c, d⟩
  · refine Or.inl ⟨a, b, fun v q => ?_⟩
    rcases (h v).mp q with z | z
    · exact c v z
    · rw [z]; omega
  · refine Or.inr ⟨a, (h bn).mpr (Or.inl b), c, fun v q hv => ?_⟩
    rcases (h v).mp q with z | z
    · exact d v z hv
    · rw [z] at hv ⊢; omega
theorem best_n {P P' : Int → Prop} {v0 : Int} (h : ∀ v : Int, P' v ↔ (P v ∨ v = v0)) {ct : Int → Int} {bc bn : Int} (hB : Best P ct bc bn) (hc : ct v0 ≠ -1) (hk : bc = -1 ∨ ct v0 < bc ∨ (ct v0 = bc ∧ (bcl v0 < bcl bn ∨ (bcl v0 = bcl bn ∧ v0 ≤ bn)))) : Best P' ct (ct v0) v0 := by
  refine Or.inr ⟨hc, (h v0).mpr (Or.inr rfl), rfl, fun v q hv => ?_⟩
  rcases (h v).mp q with z | z
  · rcases hB with ⟨a, b, c⟩ | ⟨a, b, c, d⟩
    · exact absurd (c v z) hv
    · have := d v z hv
      omega
  · rw [z]; omega
