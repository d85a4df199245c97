/-! legs: the share as a number over a number -/
theorem den_e : ∀ K : Nat, K < 6 → ∀ v : Nat, v < 6 → fd (fun _ x => w64 (x * 10)) K (dv (v + 1) 1) = dv (v + 1) (fd (fun _ x => w64 (x * 10)) K 1) ∧ 0 < dv (v + 1) (fd (fun _ x => w64 (x * 10)) K 1) ∧ dv (v + 1) (fd (fun _ x => w64 (x * 10)) K 1) ≤ 10000000000 := by decide
theorem ms_0 {t : Int → Int} {A : Int → Int} : ∀ k : Nat, ms t k A 0 = A 0
  | 0 => rfl
  | k + 1 => by
    rw [← ms_0 (t := t) (A := A) k]
    show lp (ms1 (t k)) 5 (ms t k A) 0 = ms t k A 0
    refine lp_p (P := fun B => B 0 = ms t k A 0) (n := 5) (fun j B hj hB => ?_) 5 _ (by omega) rfl
    unfold ms1
    rw [rset_ne (by omega)]
    exact hB
theorem sv_r {A : Int → Int} (h0 : A 0 = 1) (h : ∀ j : Nat, j < 6 → 0 ≤ A j ∧ A j ≤ 7440174) : ∀ k : Nat, k < 6 → 1 ≤ sv A (k + 1) ∧ sv A (k + 1) ≤ 10000000 * 10 ^ k - 1000000 ∧ sv A (k + 1) ≤ 1000000000000
  | 0, _ => by
    have e : sv A 1 = w64 (w64 (10 * 0) + A 0) := rfl
    rw [e, h0]
    decide
  | k + 1, hk => by
    have ih := sv_r h0 h k (by omega)
    have ha := h (k + 1) (by omega)
    have e : sv A (k + 1 + 1) = w64 (w64 (10 * sv A (k + 1)) + A ((k + 1 : Nat) : Int)) := rfl
    have hp : (10 : Int) ^ (k + 1) = 10 ^ k * 10 := Int.pow_succ 10 k
    have hq : (1 : Int) ≤ 10 ^ k ∧ (10 : Int) ^ k ≤ 10000 := by
      rcases (show k = 0 ∨ k = 1 ∨ k = 2 ∨ k = 3 ∨ k = 4 by omega) with rfl | rfl | rfl | rfl | rfl <;> decide
    rw [e, hp, w64_id (x := 10 * sv A (k + 1)) (by omega) (by omega), w64_id (by omega) (by omega)]
    omega
