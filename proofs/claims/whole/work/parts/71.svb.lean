/-! legs: closer bounds; both sides' shares told alike -/
def svb (b : Nat → Int) : Nat → Int
  | 0 => b 0
  | k + 1 => 10 * svb b k + b (k + 1)
theorem svb_r : ∀ K : Nat, K < 6 → ∀ j : Nat, j < 6 → 0 ≤ svb (bds K) j ∧ svb (bds K) j ≤ 20000000 := by decide
theorem sv_b {b : Nat → Int} {A : Int → Int} (h : V6 b A) (hb : ∀ j : Nat, j < 6 → 0 ≤ svb b j ∧ svb b j ≤ 20000000) : ∀ k : Nat, k < 6 → 0 ≤ sv A (k + 1) ∧ sv A (k + 1) ≤ svb b k
  | 0, _ => by
    have e : sv A 1 = w64 (w64 (10 * 0) + A 0) := rfl
    have h0 := h 0 (by omega)
    have hb0 := hb 0 (by omega)
    have e2 : svb b 0 = b 0 := rfl
    have e3 : w64 (10 * 0) = 0 := by decide
    have e4 : A ((0 : Nat) : Int) = A 0 := rfl
    rw [e, e3, w64_id (by omega) (by omega)]
    omega
  | k + 1, hk => by
    have ih := sv_b h hb k (by omega)
    have ha := h (k + 1) (by omega)
    have hb1 := hb (k + 1) (by omega)
    have e : sv A (k + 1 + 1) = w64 (w64 (10 * sv A (k + 1)) + A ((k + 1 : Nat) : Int)) := rfl
    have e2 : svb b (k + 1) = 10 * svb b k + b (k + 1) := rfl
    rw [e, w64_id (x := 10 * sv A (k + 1)) (by omega) (by omega), w64_id (by omega) (by omega)]
    omega
theorem sv_ag {A B : Int → Int} (h : AG6 A B) : ∀ k : Nat, k ≤ 6 → sv A k = sv B k
  | 0, _ => rfl
  | k + 1, hk => by
    have e : ∀ C : Int → Int, sv C (k + 1) = w64 (w64 (10 * sv C k) + C (k : Int)) := fun _ => rfl
    rw [e, e, sv_ag h k (by omega), h k (by omega)]
def ms0 : Int → Int := fun j => if j = 0 then 1 else 0
theorem ms0_ag {A : Int → Int} (h : A 0 = 1 ∧ A 1 = 0 ∧ A 2 = 0 ∧ A 3 = 0 ∧ A 4 = 0 ∧ A 5 = 0) : AG6 A ms0 := by
  intro j hj
  rcases (show j = 0 ∨ j = 1 ∨ j = 2 ∨ j = 3 ∨ j = 4 ∨ j = 5 by omega) with rfl | rfl | rfl | rfl | rfl | rfl
  · exact h.1
  · exact h.2.1
  · exact h.2.2.1
  · exact h.2.2.2.1
  · exact h.2.2.2.2.1
  · exact h.2.2.2.2.2
theorem ms0_v : V6 (bds 0) ms0 := by
  intro j hj
  rcases (show j = 0 ∨ j = 1 ∨ j = 2 ∨ j = 3 ∨ j = 4 ∨ j = 5 by omega) with rfl | rfl | rfl | rfl | rfl | rfl <;> decide
/-- the share's upper and lower number, before they are made short -/
def shS (t : Int → Int) (K v : Nat) : Int := sv (ms t K ms0) (v + 1)
def shN (t : Int → Int) (K v : Nat) : Int := shS t K v * fd (fun i x => w64 (x * (10 - t i))) K 1
def shD (K v : Nat) : Int := dv (v + 1) (fd (fun _ x => w64 (x * 10)) K 1)
theorem shS_r {t : Int → Int} {K v : Nat} (hK : K ≤ 5) (hv : v ≤ 5) (ht : ∀ i : Nat, i < K → 0 ≤ t i ∧ t i ≤ 9) : 1 ≤ shS t K v ∧ shS t K v ≤ 20000000 := by
  have h1 := ms_v hK ht ms0_v K (by omega)
  have h2 := sv_b h1 (fun j hj => svb_r K (by omega) j hj) v (by omega)
  have h3 := svb_r K (by omega) v (by omega)
  have h4 : ms t K ms0 0 = 1 := by rw [ms_0]; rfl
  have h5 := sv_r h4 (fun j hj => ⟨(h1 j hj).1, Int.le_trans (h1 j hj).2 (bds_r K (by omega) j hj).2⟩) v (by omega)
  unfold shS
  omega
theorem shP_r {t : Int → Int} {K : Nat} (hK : K ≤ 5) (ht : ∀ i : Nat, i < K → 0 ≤ t i ∧ t i ≤ 9) {s : Int} (hs : 1 ≤ s ∧ s ≤ 20000000) : fd (fun i x => w64 (x * (10 - t i))) K s = s * fd (fun i x => w64 (x * (10 - t i))) K 1 ∧ 1 ≤ fd (fun i x => w64 (x * (10 - t i))) K 1 ∧ fd (fun i x => w64 (x * (10 - t i))) K 1 ≤ 100000 := by
  have h := prod_e hK ht (s := s) (by omega) K (by omega)
  have hq : (10 : Int) ^ K ≤ 100000 := by
    rcases (show K = 0 ∨ K = 1 ∨ K = 2 ∨ K = 3 ∨ K = 4 ∨ K = 5 by omega) with rfl | rfl | rfl | rfl | rfl | rfl <;> decide
  exact ⟨h.1, h.2.1, Int.le_trans h.2.2 hq⟩
theorem shN_r {t : Int → Int} {K v : Nat} (hK : K ≤ 5) (hv : v ≤ 5) (ht : ∀ i : Nat, i < K → 0 ≤ t i ∧ t i ≤ 9) : 1 ≤ shN t K v ∧ shN t K v ≤ 2000000000000 := by
  have h1 := shS_r hK hv ht
  have h2 := shP_r hK ht h1
  unfold shN
  generalize shS t K v = s at h1 h2 ⊢
  generalize fd (fun i x => w64 (x * (10 - t i))) K 1 = P at h2 ⊢
  have g1 : s * P ≤ 20000000 * P := Int.mul_le_mul_of_nonneg_right h1.2 (by omega)
  have g2 : 1 * 1 ≤ s * P := Int.mul_le_mul h1.1 h2.2.1 (by omega) (by omega)
  omega
theorem shD_r {K v : Nat} (hK : K ≤ 5) (hv : v ≤ 5) : 1 ≤ shD K v ∧ shD K v ≤ 10000000000 := by
  have h := den_e K (by omega) v (by omega)
  unfold shD
  omega
def shG (t : Int → Int) (K v : Nat) : Nat := Nat.gcd (shD K v).toNat (shN t K v).toNat
theorem sp_shareC {K v : Nat} (hK : K ≤ 5) (hv : v ≤ 5) {m : Mem} {post : Mem → Prop} (h0 : m 59 0 = K) (ht : ∀ i : Nat, i < K → 0 ≤ m 61 i ∧ m 61 i ≤ 9) (H : ∀ m' : Mem, (∀ c i : Int, ¬ (c = 62 ∨ (c = 59 ∧ (i = 1 ∨ i = 2))) → m' c i = m c i) → m' 59 1 = w64 (Int.tdiv (shN (m 61) K v) (shG (m 61) K v : Nat)) → m' 59 2 = w64 (Int.tdiv (shD K v) (shG (m 61) K v : Nat)) → post m') : wp_X4_shareOf v m post := by
  refine sp_shareOf hK hv h0 ht (fun A hA => ?_)
  have hS := shS_r hK hv ht
  have hN := shN_r hK hv ht
  have hD := shD_r hK hv
  have e1 : sv (ms (m 61) K A) (v + 1) = shS (m 61) K v := sv_ag (ms_ag (fun i _ => rfl) (ms0_ag hA) K (by omega)) (v + 1) (by omega)
  have e2 := (shP_r hK ht hS).1
  have e3 : fd (fun _ x => w64 (x * 10)) K (dv (v + 1) 1) = shD K v := (den_e K (by omega) v (by omega)).1
  have e4 : shN (m 61) K v = ((shN (m 61) K v).toNat : Nat) := by omega
  have e5 : shD K v = ((shD K v).toNat : Nat) := by omega
  rw [e1, e2, e3]
  show wp_X4_reduce (shN (m 61) K v) (shD K v) _ _
  rw [e4, e5]
  refine sp_reduce (by omega) (by omega) (by omega) (H _ ?_ ?_ ?_)
  · intro c i hc
    rw [mset_ne (by omega), mset_ne (by omega), mrow_ne (by omega)]
  · rw [mset_ne (by omega), mset_same, ← e4]
    rfl
  · rw [mset_same, ← e5]
    rfl
theorem sp_shareM {K v : Nat} (hK : K ≤ 5) (hv : v ≤ 5) {t : Int → Int} {m : Mem} {post : Mem → Prop} (h0 : m 67 27 = K) (ht : ∀ i : Nat, i < K → m 85 i = t i ∧ 0 ≤ t i ∧ t i ≤ 9) (H : ∀ m' : Mem, (∀ c i : Int, ¬ (c = 102 ∨ (c = 67 ∧ (i = 58 ∨ i = 59))) → m' c i = m c i) → m' 67 58 = shN t K v → m' 67 59 = shD K v → post m') : wp_X11_shareBy v m post := by
  refine sp_countM hK h0 ht (fun A hA => sp_130 hv (H _ ?_ ?_ ?_))
  · intro c i hc
    rw [mset_ne (by omega)]
    by_cases e : c = 67
    · subst e; rw [sM_f (by omega)]
    · rw [sM_r (by omega) e]
  · have ht' : ∀ i : Nat, i < K → 0 ≤ t i ∧ t i ≤ 9 := fun i hi => (ht i hi).2
    have e1 : sv (ms t K A) (v + 1) = shS t K v := sv_ag (ms_ag (fun i _ => rfl) (ms0_ag hA) K (by omega)) (v + 1) (by omega)
    have hN := shN_r hK hv ht'
    rw [mset_same, e1, Int.mul_comm]
    show w64 (shN t K v) = _
    rw [w64_id (by omega) (by omega)]
  · rw [mset_ne (by omega), sM_d]
    rfl
