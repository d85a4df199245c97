/-! all nets: each allowed one has its code -/
def An (n : Nat) (v : Int) : Prop := and64 v (xor64 (an n) (-1)) = 0
theorem bz {n : Nat} (hn : n ≤ 8) {v : Int} (hv : r64 v) (h : An n v) {q : Nat} (hq : q < 64) (hz : ¬ (q / 8 < n ∧ q % 8 < n ∧ q / 8 ≠ q % 8)) : (v / ((2 ^ q : Nat) : Int)) % 2 = 0 := by
  have h1 : ¬ b64 v q = 1 := fun z => hz ((an_b hn q hq).mp (sub_b h q hq z))
  unfold b64 at h1
  rw [and64_1, shr64_k hv hq] at h1
  omega
theorem zb {v : Int} : ∀ k j : Nat, (∀ q : Nat, j ≤ q → q < j + k → (v / ((2 ^ q : Nat) : Int)) % 2 = 0) → (v / ((2 ^ j : Nat) : Int)) % ((2 ^ k : Nat) : Int) = 0
  | 0, j, _ => by rw [show ((2 ^ 0 : Nat) : Int) = 1 from rfl, Int.emod_one]
  | k + 1, j, h => by
    have ih := zb (v := v) k (j + 1) (fun q q1 q2 => h q (by omega) (by omega))
    have h0 := h j (by omega) (by omega)
    have e1 : ((2 ^ (j + 1) : Nat) : Int) = ((2 ^ j : Nat) : Int) * 2 := by rw [Nat.pow_succ, Int.natCast_mul]; rfl
    have e2 : ((2 ^ (k + 1) : Nat) : Int) = ((2 ^ k : Nat) : Int) * 2 := by rw [Nat.pow_succ, Int.natCast_mul]; rfl
    rw [e1, ← Int.ediv_ediv_of_nonneg (Int.natCast_nonneg _)] at ih
    rw [e2]
    generalize v / ((2 ^ j : Nat) : Int) = w at ih h0 ⊢
    obtain ⟨t, ht⟩ := Int.dvd_of_emod_eq_zero ih
    refine Int.emod_eq_zero_of_dvd ⟨t, ?_⟩
    rw [Int.mul_assoc, Int.mul_comm 2 t, ← Int.mul_assoc, ← ht]
    omega
def Row4 (v r0 r1 r2 r3 : Int) : Prop := v = r0 + 256 * r1 + 65536 * r2 + 16777216 * r3 ∧ (0 ≤ r0 ∧ r0 < 16 ∧ r0 % 2 = 0) ∧ (0 ≤ r1 ∧ r1 < 16 ∧ r1 / 2 % 2 = 0) ∧ (0 ≤ r2 ∧ r2 < 16 ∧ r2 / 4 % 2 = 0) ∧ (0 ≤ r3 ∧ r3 < 8)
theorem an_4 {v : Int} (hv : r64 v) (h : An 4 v) : ∃ r0 r1 r2 r3 : Int, Row4 v r0 r1 r2 r3 := by
  have b : ∀ q : Nat, q < 64 → ¬ (q / 8 < 4 ∧ q % 8 < 4 ∧ q / 8 ≠ q % 8) → (v / ((2 ^ q : Nat) : Int)) % 2 = 0 := fun q hq hz => bz (by decide) hv h hq hz
  have a0 : v / 4294967296 % 4294967296 = 0 := zb (v := v) 32 32 (fun q q1 q2 => b q (by omega) (by omega))
  have a1 : v / 16 % 16 = 0 := zb (v := v) 4 4 (fun q q1 q2 => b q (by omega) (by omega))
  have a2 : v / 4096 % 16 = 0 := zb (v := v) 4 12 (fun q q1 q2 => b q (by omega) (by omega))
  have a3 : v / 1048576 % 16 = 0 := zb (v := v) 4 20 (fun q q1 q2 => b q (by omega) (by omega))
  have a4 : v / 134217728 % 32 = 0 := zb (v := v) 5 27 (fun q q1 q2 => b q (by omega) (by omega))
  have d0 : v / 1 % 2 = 0 := b 0 (by decide) (by decide)
  have d1 : v / 512 % 2 = 0 := b 9 (by decide) (by decide)
  have d2 : v / 262144 % 2 = 0 := b 18 (by decide) (by decide)
  unfold r64 at hv
  clear b h
  have h32 : 0 ≤ v ∧ v < 4294967296 := by omega
  clear a0 hv
  refine ⟨v % 16, v / 256 % 16, v / 65536 % 16, v / 16777216 % 8, ?_, ⟨by omega, by omega, by omega⟩, ⟨by omega, by omega, by omega⟩, ⟨by omega, by omega, by omega⟩, by omega, by omega⟩
  omega
theorem an_3 {v : Int} (hv : r64 v) (h : An 3 v) : ∃ r0 r1 r2 : Int, Row4 v r0 r1 r2 0 ∧ r0 < 8 ∧ r1 < 8 ∧ r2 < 4 := by
  have b : ∀ q : Nat, q < 64 → ¬ (q / 8 < 3 ∧ q % 8 < 3 ∧ q / 8 ≠ q % 8) → (v / ((2 ^ q : Nat) : Int)) % 2 = 0 := fun q hq hz => bz (by decide) hv h hq hz
  have a0 : v / 16777216 % 1099511627776 = 0 := zb (v := v) 40 24 (fun q q1 q2 => b q (by omega) (by omega))
  have a1 : v / 8 % 32 = 0 := zb (v := v) 5 3 (fun q q1 q2 => b q (by omega) (by omega))
  have a2 : v / 2048 % 32 = 0 := zb (v := v) 5 11 (fun q q1 q2 => b q (by omega) (by omega))
  have a3 : v / 262144 % 64 = 0 := zb (v := v) 6 18 (fun q q1 q2 => b q (by omega) (by omega))
  have d0 : v / 1 % 2 = 0 := b 0 (by decide) (by decide)
  have d1 : v / 512 % 2 = 0 := b 9 (by decide) (by decide)
  unfold r64 at hv
  clear b h
  have h32 : 0 ≤ v ∧ v < 16777216 := by omega
  clear a0 hv
  refine ⟨v % 8, v / 256 % 8, v / 65536 % 4, ⟨?_, ⟨by omega, by omega, by omega⟩, ⟨by omega, by omega, by omega⟩, ⟨by omega, by omega, by omega⟩, by omega, by omega⟩, by omega, by omega, by omega⟩
  omega
theorem an_2 {v : Int} (hv : r64 v) (h : An 2 v) : ∃ r0 r1 : Int, Row4 v r0 r1 0 0 ∧ r0 < 4 ∧ r1 < 2 := by
  have b : ∀ q : Nat, q < 64 → ¬ (q / 8 < 2 ∧ q % 8 < 2 ∧ q / 8 ≠ q % 8) → (v / ((2 ^ q : Nat) : Int)) % 2 = 0 := fun q hq hz => bz (by decide) hv h hq hz
  have a0 : v / 65536 % 281474976710656 = 0 := zb (v := v) 48 16 (fun q q1 q2 => b q (by omega) (by omega))
  have a1 : v / 4 % 64 = 0 := zb (v := v) 6 2 (fun q q1 q2 => b q (by omega) (by omega))
  have a2 : v / 512 % 128 = 0 := zb (v := v) 7 9 (fun q q1 q2 => b q (by omega) (by omega))
  have d0 : v / 1 % 2 = 0 := b 0 (by decide) (by decide)
  unfold r64 at hv
  clear b h
  have h32 : 0 ≤ v ∧ v < 65536 := by omega
  clear a0 hv
  refine ⟨v % 4, v / 256 % 2, ⟨?_, ⟨by omega, by omega, by omega⟩, ⟨by omega, by omega, by omega⟩, ⟨by omega, by omega, by omega⟩, by omega, by omega⟩, by omega, by omega⟩
  omega
theorem an_row {n : Nat} (hn : 2 ≤ n ∧ n ≤ 4) {v : Int} (hv : r64 v) (h : An n v) : ∃ r0 r1 r2 r3 : Int, Row4 v r0 r1 r2 r3 := by
  rcases (show n = 2 ∨ n = 3 ∨ n = 4 by omega) with rfl | rfl | rfl
  · obtain ⟨r0, r1, h, -⟩ := an_2 hv h; exact ⟨r0, r1, 0, 0, h⟩
  · obtain ⟨r0, r1, r2, h, -⟩ := an_3 hv h; exact ⟨r0, r1, r2, 0, h⟩
  · exact an_4 hv h
theorem row_c4 {v r0 r1 r2 r3 : Int} (h : Row4 v r0 r1 r2 r3) : ∃ c : Int, 0 ≤ c ∧ c < 4096 ∧ nC 4 c = v := by
  obtain ⟨rfl, h0, h1, h2, h3⟩ := h
  obtain ⟨d0, e0⟩ : ∃ d : Int, d = r0 / 2 := ⟨_, rfl⟩
  obtain ⟨d1, e1⟩ : ∃ d : Int, d = r1 % 2 + r1 / 4 * 2 := ⟨_, rfl⟩
  obtain ⟨d2, e2⟩ : ∃ d : Int, d = r2 % 4 + r2 / 8 * 4 := ⟨_, rfl⟩
  have b0 : 0 ≤ d0 ∧ d0 < 8 ∧ 2 * d0 = r0 := by omega
  have b1 : 0 ≤ d1 ∧ d1 < 8 ∧ d1 % 2 + d1 / 2 * 4 = r1 := by omega
  have b2 : 0 ≤ d2 ∧ d2 < 8 ∧ d2 % 4 + d2 / 4 * 8 = r2 := by omega
  clear e0 e1 e2 h0 h1 h2
  refine ⟨d0 + 8 * d1 + 64 * d2 + 512 * r3, by omega, by omega, ?_⟩
  rw [nC_4 (by omega), show (d0 + 8 * d1 + 64 * d2 + 512 * r3) / 1 % 8 = d0 by omega, show (d0 + 8 * d1 + 64 * d2 + 512 * r3) / 8 % 8 = d1 by omega, show (d0 + 8 * d1 + 64 * d2 + 512 * r3) / 64 % 8 = d2 by omega, show (d0 + 8 * d1 + 64 * d2 + 512 * r3) / 512 % 8 = r3 by omega, b0.2.2, b1.2.2, b2.2.2]
  omega
theorem cod_C {n : Nat} (hn : 2 ≤ n ∧ n ≤ 4) {v : Int} (hv : r64 v) (h : An n v) : ∃ c : Int, 0 ≤ c ∧ c < 2 ^ (n * (n - 1)) ∧ nC n c = v := by
  rcases (show n = 2 ∨ n = 3 ∨ n = 4 by omega) with rfl | rfl | rfl
  · obtain ⟨r0, r1, ⟨rfl, h0, h1, -, -⟩, g0, g1⟩ := an_2 hv h
    refine ⟨r0 / 2 + 2 * r1, by omega, show r0 / 2 + 2 * r1 < 4 by omega, ?_⟩
    rw [nC_2 (by omega)]
    omega
  · obtain ⟨r0, r1, r2, ⟨rfl, h0, h1, h2, -⟩, g0, g1, g2⟩ := an_3 hv h
    obtain ⟨d0, e0⟩ : ∃ d : Int, d = r0 / 2 := ⟨_, rfl⟩
    obtain ⟨d1, e1⟩ : ∃ d : Int, d = r1 % 2 + r1 / 4 * 2 := ⟨_, rfl⟩
    have b0 : 0 ≤ d0 ∧ d0 < 4 ∧ 2 * d0 = r0 := by omega
    have b1 : 0 ≤ d1 ∧ d1 < 4 ∧ d1 % 2 + d1 / 2 * 4 = r1 := by omega
    have b2 : r2 % 4 + r2 / 4 * 8 = r2 := by omega
    clear e0 e1 h0 h1
    refine ⟨d0 + 4 * d1 + 16 * r2, by omega, show d0 + 4 * d1 + 16 * r2 < 64 by omega, ?_⟩
    rw [nC_3 (by omega), show (d0 + 4 * d1 + 16 * r2) / 1 % 4 = d0 by omega, show (d0 + 4 * d1 + 16 * r2) / 4 % 4 = d1 by omega, show (d0 + 4 * d1 + 16 * r2) / 16 % 4 = r2 by omega, b0.2.2, b1.2.2, b2]
    omega
  · obtain ⟨r0, r1, r2, r3, h⟩ := an_4 hv h
    exact row_c4 h
theorem cod_M {n : Nat} (hn : 2 ≤ n ∧ n ≤ 4) {v : Int} (hv : r64 v) (h : An n v) : ∃ c : Int, 0 ≤ c ∧ c < 16 ^ n ∧ nM n c = v := by
  rcases (show n = 2 ∨ n = 3 ∨ n = 4 by omega) with rfl | rfl | rfl
  · obtain ⟨r0, r1, ⟨rfl, h0, h1, -, -⟩, g0, g1⟩ := an_2 hv h
    refine ⟨r0 + 16 * r1, by omega, show r0 + 16 * r1 < 256 by omega, ?_⟩
    rw [nM_2 (by omega), show (r0 + 16 * r1) / 1 % 16 = r0 by omega, show (r0 + 16 * r1) / 16 % 16 = r1 by omega]
    omega
  · obtain ⟨r0, r1, r2, ⟨rfl, h0, h1, h2, -⟩, g0, g1, g2⟩ := an_3 hv h
    refine ⟨r0 + 16 * r1 + 256 * r2, by omega, show r0 + 16 * r1 + 256 * r2 < 4096 by omega, ?_⟩
    rw [nM_3 (by omega), show (r0 + 16 * r1 + 256 * r2) / 1 % 16 = r0 by omega, show (r0 + 16 * r1 + 256 * r2) / 16 % 16 = r1 by omega, show (r0 + 16 * r1 + 256 * r2) / 256 % 16 = r2 by omega]
    omega
  · obtain ⟨r0, r1, r2, r3, rfl, h0, h1, h2, h3⟩ := an_4 hv h
    refine ⟨r0 + 16 * r1 + 256 * r2 + 4096 * r3, by omega, show r0 + 16 * r1 + 256 * r2 + 4096 * r3 < 65536 by omega, ?_⟩
    rw [nM_4 (by omega), show (r0 + 16 * r1 + 256 * r2 + 4096 * r3) / 1 % 16 = r0 by omega, show (r0 + 16 * r1 + 256 * r2 + 4096 * r3) / 16 % 16 = r1 by omega, show (r0 + 16 * r1 + 256 * r2 + 4096 * r3) / 256 % 16 = r2 by omega, show (r0 + 16 * r1 + 256 * r2 + 4096 * r3) / 4096 % 16 = r3 by omega]
    omega
theorem nM_r {n : Nat} (hn : 2 ≤ n ∧ n ≤ 4) {c : Int} (hc : 0 ≤ c ∧ c < 16 ^ n) : r64 (nM n c) := by
  unfold r64
  rcases (show n = 2 ∨ n = 3 ∨ n = 4 by omega) with rfl | rfl | rfl
  · have hc' : 0 ≤ c ∧ c < 256 := hc
    rw [nM_2 hc']; omega
  · have hc' : 0 ≤ c ∧ c < 4096 := hc
    rw [nM_3 hc']; omega
  · have hc' : 0 ≤ c ∧ c < 65536 := hc
    rw [nM_4 hc']; omega
theorem lex4 {N c0 c1 c2 c3 d0 d1 d2 d3 p1 q1 p2 q2 : Int} (hN : N = 4 ∨ N = 8) (x0 : 0 ≤ c0 ∧ c0 < N) (x1 : 0 ≤ c1 ∧ c1 < N) (x2 : 0 ≤ c2 ∧ c2 < N) (y0 : 0 ≤ d0 ∧ d0 < N) (y1 : 0 ≤ d1 ∧ d1 < N) (y2 : 0 ≤ d2 ∧ d2 < N) (m1 : c1 < d1 → p1 < q1) (f1 : c1 = d1 → p1 = q1) (m2 : c2 < d2 → p2 < q2) (f2 : c2 = d2 → p2 = q2) (s1 : 0 ≤ p1 ∧ p1 < 16 ∧ 0 ≤ q1 ∧ q1 < 16) (s2 : 0 ≤ p2 ∧ p2 < 16 ∧ 0 ≤ q2 ∧ q2 < 16) (h : c3 < d3 ∨ (c3 = d3 ∧ (c2 < d2 ∨ (c2 = d2 ∧ (c1 < d1 ∨ (c1 = d1 ∧ c0 < d0)))))) : 2 * c0 + p1 * 256 + p2 * 65536 + c3 * 16777216 < 2 * d0 + q1 * 256 + q2 * 65536 + d3 * 16777216 := by
  have t0 : 0 ≤ c0 ∧ c0 < 8 := by omega
  have u0 : 0 ≤ d0 ∧ d0 < 8 := by omega
  clear x0 x1 x2 y0 y1 y2 hN
  rcases h with h | ⟨h, h | ⟨h2, h | ⟨h1, h⟩⟩⟩
  · clear m1 f1 m2 f2; omega
  · have := m2 h; clear m1 f1 m2 f2; omega
  · have g1 := m1 h; have g2 := f2 h2; clear m1 f1 m2 f2; omega
  · have g1 := f1 h1; have g2 := f2 h2; clear m1 f1 m2 f2; omega
theorem rw1 {N c d : Int} (hN : N = 4 ∨ N = 8) (hc : 0 ≤ c ∧ c < N) (hd : 0 ≤ d ∧ d < N) : (c < d → c % 2 + c / 2 * 4 < d % 2 + d / 2 * 4) ∧ (c = d → c % 2 + c / 2 * 4 = d % 2 + d / 2 * 4) ∧ (0 ≤ c % 2 + c / 2 * 4 ∧ c % 2 + c / 2 * 4 < 16 ∧ 0 ≤ d % 2 + d / 2 * 4 ∧ d % 2 + d / 2 * 4 < 16) := ⟨by omega, fun h => by rw [h], by omega⟩
theorem rw2 {N c d : Int} (hN : N = 4 ∨ N = 8) (hc : 0 ≤ c ∧ c < N) (hd : 0 ≤ d ∧ d < N) : (c < d → c % 4 + c / 4 * 8 < d % 4 + d / 4 * 8) ∧ (c = d → c % 4 + c / 4 * 8 = d % 4 + d / 4 * 8) ∧ (0 ≤ c % 4 + c / 4 * 8 ∧ c % 4 + c / 4 * 8 < 16 ∧ 0 ≤ d % 4 + d / 4 * 8 ∧ d % 4 + d / 4 * 8 < 16) := ⟨by omega, fun h => by rw [h], by omega⟩
theorem nC_m {n : Nat} (hn : 2 ≤ n ∧ n ≤ 4) {c d : Int} (hc : 0 ≤ c) (hcd : c < d) (hd : d < 2 ^ (n * (n - 1))) : nC n c < nC n d := by
  rcases (show n = 2 ∨ n = 3 ∨ n = 4 by omega) with rfl | rfl | rfl
  · have hd' : d < 4 := hd
    rw [nC_2 (by omega), nC_2 (by omega)]
    omega
  · have hd' : d < 64 := hd
    rw [nC_3 (by omega), nC_3 (by omega)]
    have hx : ∀ x : Int, 0 ≤ x ∧ x < 64 → (0 ≤ x / 1 % 4 ∧ x / 1 % 4 < 4) ∧ (0 ≤ x / 4 % 4 ∧ x / 4 % 4 < 4) ∧ (0 ≤ x / 16 % 4 ∧ x / 16 % 4 < 4) ∧ x = x / 1 % 4 + 4 * (x / 4 % 4) + 16 * (x / 16 % 4) := fun x h => by omega
    obtain ⟨x0, x1, x2, x3⟩ := hx c (by omega)
    obtain ⟨y0, y1, y2, y3⟩ := hx d (by omega)
    clear hx hd hd'
    have hN : (4 : Int) = 4 ∨ (4 : Int) = 8 := Or.inl rfl
    generalize c / 1 % 4 = c0 at *
    generalize c / 4 % 4 = c1 at *
    generalize c / 16 % 4 = c2 at *
    generalize d / 1 % 4 = d0 at *
    generalize d / 4 % 4 = d1 at *
    generalize d / 16 % 4 = d2 at *
    have hl : (0 : Int) < 0 ∨ ((0 : Int) = 0 ∧ (c2 < d2 ∨ (c2 = d2 ∧ (c1 < d1 ∨ (c1 = d1 ∧ c0 < d0))))) := by omega
    clear x3 y3 hcd hc
    have g1 := rw1 hN x1 y1
    have g2 := rw2 hN x2 y2
    have := lex4 hN x0 x1 x2 y0 y1 y2 g1.1 g1.2.1 g2.1 g2.2.1 g1.2.2 g2.2.2 hl
    generalize c1 % 2 + c1 / 2 * 4 = p1 at *
    generalize d1 % 2 + d1 / 2 * 4 = q1 at *
    generalize c2 % 4 + c2 / 4 * 8 = p2 at *
    generalize d2 % 4 + d2 / 4 * 8 = q2 at *
    clear g1 g2 hl x0 x1 x2 y0 y1 y2
    omega
  · have hd' : d < 4096 := hd
    rw [nC_4 (by omega), nC_4 (by omega)]
    have hx : ∀ x : Int, 0 ≤ x ∧ x < 4096 → (0 ≤ x / 1 % 8 ∧ x / 1 % 8 < 8) ∧ (0 ≤ x / 8 % 8 ∧ x / 8 % 8 < 8) ∧ (0 ≤ x / 64 % 8 ∧ x / 64 % 8 < 8) ∧ (0 ≤ x / 512 % 8 ∧ x / 512 % 8 < 8) ∧ x = x / 1 % 8 + 8 * (x / 8 % 8) + 64 * (x / 64 % 8) + 512 * (x / 512 % 8) := fun x h => by omega
    obtain ⟨x0, x1, x2, x4, x3⟩ := hx c (by omega)
    obtain ⟨y0, y1, y2, y4, y3⟩ := hx d (by omega)
    clear hx hd hd'
    have hN : (8 : Int) = 4 ∨ (8 : Int) = 8 := Or.inr rfl
    generalize c / 1 % 8 = c0 at *
    generalize c / 8 % 8 = c1 at *
    generalize c / 64 % 8 = c2 at *
    generalize c / 512 % 8 = c3 at *
    generalize d / 1 % 8 = d0 at *
    generalize d / 8 % 8 = d1 at *
    generalize d / 64 % 8 = d2 at *
    generalize d / 512 % 8 = d3 at *
    have hl : c3 < d3 ∨ (c3 = d3 ∧ (c2 < d2 ∨ (c2 = d2 ∧ (c1 < d1 ∨ (c1 = d1 ∧ c0 < d0))))) := by omega
    clear x3 y3 hcd hc
    have g1 := rw1 hN x1 y1
    have g2 := rw2 hN x2 y2
    have := lex4 hN x0 x1 x2 y0 y1 y2 g1.1 g1.2.1 g2.1 g2.2.1 g1.2.2 g2.2.2 hl
    generalize c1 % 2 + c1 / 2 * 4 = p1 at *
    generalize d1 % 2 + d1 / 2 * 4 = q1 at *
    generalize c2 % 4 + c2 / 4 * 8 = p2 at *
    generalize d2 % 4 + d2 / 4 * 8 = q2 at *
    clear g1 g2 hl x0 x1 x2 x4 y0 y1 y2 y4
    omega
