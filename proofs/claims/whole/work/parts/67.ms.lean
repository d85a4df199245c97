/-! legs: no product leaves the long -/
theorem mul9 {t x X : Int} (ht : 0 ≤ t ∧ t ≤ 9) (hx : 0 ≤ x ∧ x ≤ X) : 0 ≤ t * x ∧ t * x ≤ 9 * X :=
  ⟨Int.mul_nonneg ht.1 hx.1, Int.le_trans (Int.mul_le_mul_of_nonneg_right ht.2 hx.1) (by omega)⟩
def nb (b : Nat → Int) : Nat → Int
  | 0 => b 0
  | j + 1 => b (j + 1) + 9 * nb b j
def bds : Nat → Nat → Int
  | 0 => fun j => if j = 0 then 1 else 0
  | K + 1 => nb (bds K)
theorem bds_r : ∀ K : Nat, K < 6 → ∀ j : Nat, j < 6 → 0 ≤ bds K j ∧ bds K j ≤ 7440174 := by decide
def AG6 (A B : Int → Int) : Prop := ∀ j : Nat, j < 6 → A j = B j
def V6 (b : Nat → Int) (A : Int → Int) : Prop := ∀ j : Nat, j < 6 → 0 ≤ A j ∧ A j ≤ b j
theorem ms_ag {t t' : Int → Int} {K : Nat} (ht : ∀ i : Nat, i < K → t i = t' i) {A B : Int → Int} (h : AG6 A B) : ∀ k : Nat, k ≤ K → AG6 (ms t k A) (ms t' k B)
  | 0, _ => h
  | k + 1, hk => by
    have ih := ms_ag ht h k (by omega)
    show AG6 (lp (ms1 (t k)) 5 (ms t k A)) (lp (ms1 (t' k)) 5 (ms t' k B))
    refine lp_2 (P := fun A B => AG6 A B) (n := 5) (fun j A B hj hI => ?_) 5 _ _ (by omega) ih
    intro i hi
    unfold ms1
    rw [ht k (by omega), hI j (by omega), hI (j + 1) (by omega)]
    by_cases e : i = j + 1
    · rw [e, rset_eq rfl, rset_eq rfl]
    · rw [rset_ne (by omega), rset_ne (by omega)]; exact hI i hi
theorem ms2_v {b : Nat → Int} (hb : ∀ j : Nat, j < 6 → nb b j ≤ 7440174) {t : Int} (ht : 0 ≤ t ∧ t ≤ 9) {A : Int → Int} (h : V6 b A) : ∀ i : Nat, i ≤ 5 → ∀ j : Nat, j < 6 → 0 ≤ lp (ms1 t) i A j ∧ (j ≤ i → lp (ms1 t) i A j ≤ nb b j) ∧ (i < j → lp (ms1 t) i A j ≤ b j)
  | 0, _, j, hj => by
    have := h j hj
    show 0 ≤ A j ∧ (j ≤ 0 → A j ≤ nb b j) ∧ (0 < j → A j ≤ b j)
    refine ⟨this.1, fun z => ?_, fun _ => this.2⟩
    rw [show j = 0 by omega] at this ⊢
    exact this.2
  | i + 1, hi, j, hj => by
    have ih := ms2_v hb ht h i (by omega)
    show 0 ≤ ms1 t i (lp (ms1 t) i A) j ∧ (j ≤ i + 1 → ms1 t i (lp (ms1 t) i A) j ≤ nb b j) ∧ (i + 1 < j → ms1 t i (lp (ms1 t) i A) j ≤ b j)
    generalize lp (ms1 t) i A = B at ih ⊢
    have h1 := ih i (by omega)
    have h2 := ih (i + 1) (by omega)
    have hp := mul9 ht ⟨h1.1, h1.2.1 (by omega)⟩
    have hn : nb b (i + 1) = b (i + 1) + 9 * nb b i := rfl
    have hb1 := hb (i + 1) (by omega)
    have h23 := h2.2.2 (by omega)
    unfold ms1
    by_cases e : j = i + 1
    · subst e
      rw [rset_eq rfl, w64_id (x := t * B (i : Int)) (by omega) (by omega), w64_id (by omega) (by omega)]
      exact ⟨by omega, fun _ => by omega, fun z => by omega⟩
    · rw [rset_ne (by omega)]
      have := ih j hj
      exact ⟨this.1, fun z => this.2.1 (by omega), fun z => this.2.2 (by omega)⟩
theorem ms_v {t : Int → Int} {K : Nat} (hK : K ≤ 5) (ht : ∀ i : Nat, i < K → 0 ≤ t i ∧ t i ≤ 9) {A : Int → Int} (h : V6 (bds 0) A) : ∀ k : Nat, k ≤ K → V6 (bds k) (ms t k A)
  | 0, _ => h
  | k + 1, hk => by
    have ih := ms_v hK ht h k (by omega)
    intro j hj
    have := ms2_v (fun j hj => (bds_r (k + 1) (by omega) j hj).2) (ht k (by omega)) ih 5 (by omega) j hj
    exact ⟨this.1, this.2.1 (by omega)⟩
