/-! promise -/
theorem lcmp_lt (a b : Int) : lcmp a b < 0 ↔ a < b := by
  unfold lcmp
  by_cases h : b < a
  · rw [if_pos h]; omega
  · rw [if_neg h]
    by_cases h2 : a = b
    · rw [if_pos h2]; omega
    · rw [if_neg h2]; omega
def shOk (t : Int → Int) (K : Nat) (p : Int) (v : Nat) : Prop := p * shD K v ≤ 1000 * shN t K v
theorem sh_x {N : Int} {g : Nat} (hN : 1 ≤ N) (hg : 0 < g) (hd : g ∣ N.toNat) : ∃ x : Int, N = g * x ∧ Int.tdiv N g = x ∧ 1 ≤ x ∧ x ≤ N := by
  obtain ⟨c, hc⟩ := hd
  have e : N = (g : Int) * (c : Int) := by
    have : N = ((g * c : Nat) : Int) := by rw [← hc]; omega
    rw [this]; exact Int.natCast_mul g c
  have hc0 : 0 < c := by
    rcases Nat.eq_zero_or_pos c with h | h
    · subst h; omega
    · exact h
  refine ⟨c, e, ?_, by omega, ?_⟩
  · rw [e]; exact Int.mul_tdiv_cancel_left _ (by omega)
  · have := Nat.le_mul_of_pos_left c hg
    omega
theorem sh_lt {t : Int → Int} {K v : Nat} (hK : K ≤ 5) (hv : v ≤ 5) (ht : ∀ i : Nat, i < K → 0 ≤ t i ∧ t i ≤ 9) {p : Int} (hp : 1 ≤ p ∧ p ≤ 999) : lcmp (w64 (w64 (Int.tdiv (shN t K v) (shG t K v : Nat)) * 1000)) (w64 (w64 (Int.tdiv (shD K v) (shG t K v : Nat)) * p)) < 0 ↔ ¬ shOk t K p v := by
  have hN := shN_r hK hv ht
  have hD := shD_r hK hv
  have hG := shG_p (t := t) hK hv
  obtain ⟨x, x1, x2, x3, x4⟩ := sh_x hN.1 hG (Nat.gcd_dvd_right _ _)
  obtain ⟨y, y1, y2, y3, y4⟩ := sh_x hD.1 hG (Nat.gcd_dvd_left _ _)
  unfold shOk
  rw [lcmp_lt, x2, y2, x1, y1]
  have b1 : y * p ≤ y * 999 := Int.mul_le_mul_of_nonneg_left hp.2 (by omega)
  have b2 : 0 ≤ y * p := Int.mul_nonneg (by omega) (by omega)
  rw [w64_id (x := x) (by omega) (by omega), w64_id (x := y) (by omega) (by omega), w64_id (x := x * 1000) (by omega) (by omega), w64_id (x := y * p) (by omega) (by omega)]
  generalize ((shG t K v : Nat) : Int) = G at *
  have hG' : 0 < G := by
    rcases Int.lt_trichotomy 0 G with h | h | h
    · exact h
    · rw [← h] at x1; omega
    · have : G * x ≤ 0 := Int.mul_nonpos_of_nonpos_of_nonneg (by omega) (by omega)
      omega
  have e1 : p * (G * y) = G * (y * p) := by rw [Int.mul_comm, Int.mul_assoc]
  have e2 : 1000 * (G * x) = G * (x * 1000) := by rw [Int.mul_comm, Int.mul_assoc]
  rw [e1, e2]
  constructor
  · intro h
    have := Int.mul_lt_mul_of_pos_left h hG'
    omega
  · intro h
    by_cases q : x * 1000 < y * p
    · exact q
    · exact absurd (Int.mul_le_mul_of_nonneg_left (show y * p ≤ x * 1000 by omega) (by omega : 0 ≤ G)) h
theorem sp_promC {K : Nat} (hK : K ≤ 5) {p : Int} (hp : 1 ≤ p ∧ p ≤ 999) {m : Mem} {post : Int → Mem → Prop} (h0 : m 59 0 = K) (hb : ∀ i : Nat, i < K → 0 ≤ m 60 i ∧ m 60 i ≤ 99) (ht : ∀ i : Nat, i < K → 0 ≤ m 61 i ∧ m 61 i ≤ 9) (H1 : ∀ v : Nat, v ≤ 5 → (∀ u : Nat, u < v → ¬ shOk (m 61) K p u) → shOk (m 61) K p v → ∀ m' : Mem, (∀ c i : Int, ¬ (c = 62 ∨ (c = 59 ∧ (i = 1 ∨ i = 2))) → m' c i = m c i) → post (sumg (fun i => m 60 i) K + 24 * v) m') (H0 : (∀ u : Nat, u < 6 → ¬ shOk (m 61) K p u) → ∀ m' : Mem, (∀ c i : Int, ¬ (c = 62 ∨ (c = 59 ∧ (i = 1 ∨ i = 2))) → m' c i = m c i) → post (-1) m') : wp_X4_hoursFor p m post := by
  have hs := sumg_r (g := fun i => m 60 i) K hb
  have key : ∀ (r v : Nat) (m' : Mem), v + r = 6 → (∀ c i : Int, ¬ (c = 62 ∨ (c = 59 ∧ (i = 1 ∨ i = 2))) → m' c i = m c i) → (∀ u : Nat, u < v → ¬ shOk (m 61) K p u) → wp_X4_hoursFor_2 post (r + 1) p v m' := by
    intro r
    induction r with
    | zero =>
      intro v m' hv f hu
      unfold wp_X4_hoursFor_2
      exact bt (by omega) (H0 (fun u h => hu u (by omega)) m' f)
    | succ r ih =>
      intro v m' hv f hu
      have r61 : m' 61 = m 61 := funext fun i => f 61 i (by omega)
      have r60 : m' 60 = m 60 := funext fun i => f 60 i (by omega)
      unfold wp_X4_hoursFor_2
      refine bf (by omega) (sp_shareC hK (by omega) (by rw [f 59 0 (by omega)]; exact h0) (by rw [r61]; exact ht) (fun m2 f2 a1 a2 => ?_))
      have f3 : ∀ c i : Int, ¬ (c = 62 ∨ (c = 59 ∧ (i = 1 ∨ i = 2))) → m2 c i = m c i := fun c i hc => by rw [f2 c i hc, f c i hc]
      have r60' : m2 60 = m 60 := funext fun i => f3 60 i (by omega)
      rw [r61] at a1 a2
      rw [a1, a2, sh_lt hK (by omega) ht hp, i1 v (by omega)]
      refine ⟨fun hn => ih (v + 1) m2 (by omega) f3 (fun u h => ?_), fun hn => ?_⟩
      · by_cases e : u = v
        · subst e; exact hn
        · exact hu u (by omega)
      · refine sp_hoursC hK (by rw [f3 59 0 (by omega)]; exact h0) (by rw [r60']; exact hb) ?_
        rw [r60', w32_i (x := 24 * (v : Int)) (by omega), w32_i (by omega)]
        exact H1 v (by omega) hu (Classical.byContradiction hn) m2 f3
  exact ⟨7, key 6 0 m (by omega) (fun _ _ _ => rfl) (fun u h => by omega)⟩
theorem sp_promM {K : Nat} (hK : K ≤ 5) {p : Int} (hp : 1 ≤ p ∧ p ≤ 999) {t : Int → Int} {g : Nat → Int} {m : Mem} {post : Int → Mem → Prop} (h0 : m 67 27 = K) (hb : ∀ i : Nat, i < K → m 84 i = g i ∧ 0 ≤ g i ∧ g i ≤ 99) (ht : ∀ i : Nat, i < K → m 85 i = t i ∧ 0 ≤ t i ∧ t i ≤ 9) (H1 : ∀ v : Nat, v ≤ 5 → (∀ u : Nat, u < v → ¬ shOk t K p u) → shOk t K p v → ∀ m' : Mem, (∀ c i : Int, ¬ (c = 102 ∨ (c = 67 ∧ (i = 58 ∨ i = 59))) → m' c i = m c i) → post (sumg g K + 24 * v) m') (H0 : (∀ u : Nat, u < 6 → ¬ shOk t K p u) → ∀ m' : Mem, (∀ c i : Int, ¬ (c = 102 ∨ (c = 67 ∧ (i = 58 ∨ i = 59))) → m' c i = m c i) → post (-1) m') : ∃ n : Nat, wp_X11_promise_16 post n p 0 m := by
  have hs := sumg_r (g := g) K (fun j hj => (hb j hj).2)
  have key : ∀ (r v : Nat) (m' : Mem), v + r = 6 → (∀ c i : Int, ¬ (c = 102 ∨ (c = 67 ∧ (i = 58 ∨ i = 59))) → m' c i = m c i) → (∀ u : Nat, u < v → ¬ shOk t K p u) → wp_X11_promise_16 post (r + 1) p v m' := by
    intro r
    induction r with
    | zero =>
      intro v m' hv f hu
      unfold wp_X11_promise_16
      exact bt (by omega) (H0 (fun u h => hu u (by omega)) m' f)
    | succ r ih =>
      intro v m' hv f hu
      have r85 : m' 85 = m 85 := funext fun i => f 85 i (by omega)
      unfold wp_X11_promise_16
      refine bf (by omega) (sp_shareM hK (by omega) (by rw [f 67 27 (by omega)]; exact h0) (by rw [r85]; exact ht) (fun m2 f2 a1 a2 => ?_))
      have f3 : ∀ c i : Int, ¬ (c = 102 ∨ (c = 67 ∧ (i = 58 ∨ i = 59))) → m2 c i = m c i := fun c i hc => by rw [f2 c i hc, f c i hc]
      have r84 : m2 84 = m 84 := funext fun i => f3 84 i (by omega)
      have hN := shN_r (t := t) hK (show v ≤ 5 by omega) (fun i hi => (ht i hi).2)
      have hD := shD_r hK (show v ≤ 5 by omega)
      have b1 : p * shD K v ≤ 999 * shD K v := Int.mul_le_mul_of_nonneg_right hp.2 (by omega)
      have b2 : 0 ≤ p * shD K v := Int.mul_nonneg (by omega) (by omega)
      rw [a1, a2, lcmp_lt, w64_id (x := 1000 * shN t K v) (by omega) (by omega), w64_id (x := p * shD K v) (by omega) (by omega), i1 v (by omega)]
      refine ⟨fun hn => ih (v + 1) m2 (by omega) f3 (fun u h => ?_), fun hn => ?_⟩
      · by_cases e : u = v
        · subst e; unfold shOk; omega
        · exact hu u (by omega)
      · refine sp_hoursM hK (by rw [f3 67 27 (by omega)]; exact h0) (by rw [r84]; exact hb) ?_
        rw [w32_i (x := 24 * (v : Int)) (by omega), w32_i (by omega)]
        exact H1 v (by omega) hu (by unfold shOk; omega) m2 f3
  exact ⟨7, key 6 0 m (by omega) (fun _ _ _ => rfl) (fun u h => by omega)⟩
theorem op_promise {m : Mem} (hR : Rel m) (p : Int) : wp_X10_promise p m (fun r m1 => wp_X11_promise p m1 (fun r2 m2 => r = r2 ∧ Rel m2)) := by
  obtain ⟨e, k1, k2, k3⟩ := hR.2.2.2.2.2.2.2.2.2.1
  obtain ⟨K, hK⟩ : ∃ K : Nat, m 59 0 = K := ⟨(m 59 0).toNat, by omega⟩
  have hK5 : K ≤ 5 := by omega
  by_cases hp : 1 ≤ p ∧ p ≤ 999
  · have hb : ∀ i : Nat, i < K → 0 ≤ m 60 i ∧ m 60 i ≤ 99 := fun i hi => by have := k3 i (by omega) (by omega); omega
    have ht : ∀ i : Nat, i < K → 0 ≤ m 61 i ∧ m 61 i ≤ 9 := fun i hi => by have := k3 i (by omega) (by omega); omega
    have eM : ∀ m1 : Mem, (∀ c i : Int, ¬ Scr c i → m1 c i = m c i) → m1 67 27 = K ∧ (∀ i : Nat, i < K → m1 84 i = m 60 i ∧ 0 ≤ m 60 i ∧ m 60 i ≤ 99) ∧ (∀ i : Nat, i < K → m1 85 i = m 61 i ∧ 0 ≤ m 61 i ∧ m 61 i ≤ 9) := by
      intro m1 f
      refine ⟨by rw [f 67 27 (by unfold Scr; omega)]; omega, fun i hi => ?_, fun i hi => ?_⟩
      · rw [f 84 i (by unfold Scr; omega)]; exact ⟨(k3 i (by omega) (by omega)).1, hb i hi⟩
      · rw [f 85 i (by unfold Scr; omega)]; exact ⟨(k3 i (by omega) (by omega)).2.1, ht i hi⟩
    have fR : ∀ m1 m2 : Mem, (∀ c i : Int, ¬ (c = 62 ∨ (c = 59 ∧ (i = 1 ∨ i = 2))) → m1 c i = m c i) → (∀ c i : Int, ¬ (c = 102 ∨ (c = 67 ∧ (i = 58 ∨ i = 59))) → m2 c i = m1 c i) → Rel m2 := fun m1 m2 f1 f2 => hR.frame (fun c i hc => by
      rw [f2 c i (fun q => hc (by unfold Scr; omega)), f1 c i (fun q => hc (by unfold Scr; omega))])
    unfold wp_X10_promise
    refine bf (by omega) (bt (by omega) (sp_promC hK5 hp hK hb ht (fun v hv hu ho m1 f1 => ?_) (fun hu m1 f1 => ?_)))
    · obtain ⟨e0, e1, e2⟩ := eM m1 (fun c i hc => f1 c i (fun q => hc (by unfold Scr; omega)))
      unfold wp_X11_promise
      refine sp_in (fun _ _ => n1 (sp_promM hK5 hp e0 e1 e2 (fun v' hv' hu' ho' m2 f2 => ⟨?_, fR m1 m2 f1 f2⟩) (fun hu' => absurd ho (hu' v (by omega))))) (fun q => absurd hp q)
      rcases Nat.lt_trichotomy v v' with h | h | h
      · exact absurd ho (hu' v h)
      · rw [h]
      · exact absurd ho' (hu v' h)
    · obtain ⟨e0, e1, e2⟩ := eM m1 (fun c i hc => f1 c i (fun q => hc (by unfold Scr; omega)))
      unfold wp_X11_promise
      exact sp_in (fun _ _ => n1 (sp_promM hK5 hp e0 e1 e2 (fun v' hv' hu' ho' => absurd ho' (hu v' (by omega))) (fun hu' m2 f2 => ⟨rfl, fR m1 m2 f1 f2⟩))) (fun q => absurd hp q)
  · have fin : wp_X11_promise p m (fun r2 m2 => -102 = r2 ∧ Rel m2) := by
      unfold wp_X11_promise
      exact sp_in (fun a b => absurd ⟨a, b⟩ hp) (fun q => n0 ⟨rfl, hR⟩)
    unfold wp_X10_promise
    exact ⟨fun _ => fin, fun _ => ⟨fun _ => absurd ⟨by omega, by omega⟩ hp, fun _ => fin⟩⟩
