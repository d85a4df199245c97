/-! legs: the product -/
theorem prod_e {t : Int → Int} {K : Nat} (hK : K ≤ 5) (ht : ∀ i : Nat, i < K → 0 ≤ t i ∧ t i ≤ 9) {s : Int} (hs : 1 ≤ s ∧ s ≤ 1000000000000) : ∀ k : Nat, k ≤ K → fd (fun i x => w64 (x * (10 - t i))) k s = s * fd (fun i x => w64 (x * (10 - t i))) k 1 ∧ 1 ≤ fd (fun i x => w64 (x * (10 - t i))) k 1 ∧ fd (fun i x => w64 (x * (10 - t i))) k 1 ≤ 10 ^ k
  | 0, _ => by show s = s * 1 ∧ (1 : Int) ≤ 1 ∧ (1 : Int) ≤ 10 ^ 0; exact ⟨by omega, by omega, by decide⟩
  | k + 1, hk => by
    obtain ⟨e, p1, p2⟩ := prod_e hK ht hs k (by omega)
    have htk := ht k (by omega)
    have f1 : ∀ z : Int, fd (fun i x => w64 (x * (10 - t i))) (k + 1) z = w64 (fd (fun i x => w64 (x * (10 - t i))) k z * (10 - t k)) := fun _ => rfl
    rw [f1, f1, e]
    generalize fd (fun i x => w64 (x * (10 - t i))) k 1 = P at p1 p2 ⊢
    have hp : (10 : Int) ^ (k + 1) = 10 ^ k * 10 := Int.pow_succ 10 k
    have hq : (10 : Int) ^ k ≤ 10000 := by
      rcases (show k = 0 ∨ k = 1 ∨ k = 2 ∨ k = 3 ∨ k = 4 by omega) with rfl | rfl | rfl | rfl | rfl <;> decide
    have g1 : 1 ≤ P * (10 - t k) ∧ P * (10 - t k) ≤ P * 10 := ⟨Int.le_trans (by omega : (1 : Int) ≤ 1 * 1) (Int.mul_le_mul p1 (by omega) (by omega) (by omega)), Int.mul_le_mul_of_nonneg_left (by omega) (by omega)⟩
    have g2 : s * P * (10 - t k) = s * (P * (10 - t k)) := Int.mul_assoc _ _ _
    have g3 : s * (P * (10 - t k)) ≤ 1000000000000 * (P * (10 - t k)) := Int.mul_le_mul_of_nonneg_right hs.2 (by omega)
    have g4 : 0 ≤ s * (P * (10 - t k)) := Int.mul_nonneg (by omega) (by omega)
    rw [g2, hp, w64_id (x := P * (10 - t k)) (by omega) (by omega), w64_id (by omega) (by omega)]
    exact ⟨rfl, g1.1, by omega⟩
