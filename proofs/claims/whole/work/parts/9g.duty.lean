/-! crews: the duties of a week -/
def bc32 (v0 : Int) : Int :=
  let v1 := w32 (v0 - and32 (ushr32 v0 1) 1431655765)
  let v2 := w32 (and32 v1 858993459 + and32 (ushr32 v1 2) 858993459)
  let v3 := and32 (w32 (v2 + ushr32 v2 4)) 252645135
  let v4 := w32 (v3 + ushr32 v3 8)
  let v5 := w32 (v4 + ushr32 v4 16)
  and32 v5 63
/-- of the first d days, how many are days of x -/
def pd (x : Int) : Nat → Int
  | 0 => 0
  | d + 1 => pd x d + bit x d
theorem pd_r (x : Int) : ∀ d : Nat, 0 ≤ pd x d ∧ pd x d ≤ d
  | 0 => by unfold pd; omega
  | d + 1 => by
    have ih := pd_r x d
    have hb := bit_01 x d
    unfold pd
    omega
theorem sp_bc32 {v : Int} {m : Mem} {post : Int → Mem → Prop} (h : post (bc32 v) m) : wp_J6_bitCount_0f7a4 v m post := by
  unfold wp_J6_bitCount_0f7a4
  exact eqm (eqm (eqm (eqm (eqm h))))
theorem bc32_7 {x : Int} (h : 0 ≤ x ∧ x < 128) : bc32 x = pd x 7 := by
  have hc : ∀ a : Fin 128, bc32 (a.val : Int) = pd (a.val : Int) 7 := by decide +kernel
  have := hc ⟨x.toNat, by omega⟩
  rw [show ((⟨x.toNat, by omega⟩ : Fin 128).val : Int) = x from Int.toNat_of_nonneg h.1] at this
  exact this
theorem sumg_b {g : Nat → Int} {B : Nat} : ∀ L : Nat, (∀ j : Nat, j < L → 0 ≤ g j ∧ g j ≤ B) → 0 ≤ sumg g L ∧ sumg g L ≤ ((B * L : Nat) : Int)
  | 0, _ => by unfold sumg; rw [Nat.mul_zero]; decide
  | L + 1, h => by
    have ih := sumg_b L (fun j hj => h j (by omega))
    have h1 := h L (by omega)
    unfold sumg
    rw [Nat.mul_add, Nat.mul_one]
    omega
theorem mul7 {p k : Int} (hp : 0 ≤ p ∧ p ≤ 7) (hk : 1 ≤ k ∧ k ≤ 48) : 0 ≤ p * k ∧ p * k ≤ 336 := by
  have h1 : p * k ≤ 7 * k := Int.mul_le_mul_of_nonneg_right hp.2 (by omega)
  have h2 : 0 ≤ p * k := Int.mul_nonneg hp.1 (by omega)
  omega
theorem sp_dutC {K : Nat} (hK : K ≤ 12) {m : Mem} {post : Int → Mem → Prop} (h0 : m 13 0 = K) (hd : ∀ t : Nat, t < K → 1 ≤ m 20 t ∧ m 20 t ≤ 127) (H : post (sumg (fun t => pd (m 20 t) 7) K) m) : wp_X8_duties m post := by
  have hb : ∀ t : Nat, t < K → 0 ≤ pd (m 20 t) 7 ∧ pd (m 20 t) 7 ≤ (7 : Nat) := fun t _ => pd_r (m 20 t) 7
  have key : ∀ r i : Nat, i + r = K → wp_X8_duties_4 post (r + 1) (sumg (fun t => pd (m 20 t) 7) i) i m := by
    intro r
    induction r with
    | zero => intro i hi; unfold wp_X8_duties_4; rw [h0]; refine bt (by omega) ?_; rw [show i = K by omega]; exact H
    | succ r ih =>
      intro i hi
      have hs := sumg_b (g := fun t => pd (m 20 t) 7) (B := 7) i (fun j hj => hb j (by omega))
      have hbi := hb i (by omega)
      have hdi := hd i (by omega)
      have nx := ih (i + 1) (by omega)
      have e : sumg (fun t : Nat => pd (m 20 t) 7) (i + 1) = sumg (fun t : Nat => pd (m 20 t) 7) i + pd (m 20 i) 7 := rfl
      rw [e] at nx
      unfold wp_X8_duties_4
      rw [h0, i1 i (by omega)]
      refine bf (by omega) ⟨by omega, sp_bc32 (eqm ?_)⟩
      rw [bc32_7 (by omega), w32_i (by omega)]
      exact nx
  exact ⟨K + 1, key K 0 (by omega)⟩
theorem sp_dhC {K : Nat} (hK : K ≤ 12) {m : Mem} {post : Int → Mem → Prop} (h0 : m 13 0 = K) (hd : ∀ t : Nat, t < K → (1 ≤ m 20 t ∧ m 20 t ≤ 127) ∧ (1 ≤ m 18 t ∧ m 18 t ≤ 48)) (H : post (sumg (fun t => pd (m 20 t) 7 * m 18 t) K) m) : wp_X8_dutyHours m post := by
  have hb : ∀ t : Nat, t < K → 0 ≤ pd (m 20 t) 7 * m 18 t ∧ pd (m 20 t) 7 * m 18 t ≤ (336 : Nat) := fun t ht => mul7 (pd_r (m 20 t) 7) (hd t ht).2
  have key : ∀ r i : Nat, i + r = K → wp_X8_dutyHours_4 post (r + 1) (sumg (fun t => pd (m 20 t) 7 * m 18 t) i) i m := by
    intro r
    induction r with
    | zero => intro i hi; unfold wp_X8_dutyHours_4; rw [h0]; refine bt (by omega) ?_; rw [show i = K by omega]; exact H
    | succ r ih =>
      intro i hi
      have hs := sumg_b (g := fun t => pd (m 20 t) 7 * m 18 t) (B := 336) i (fun j hj => hb j (by omega))
      have hbi := hb i (by omega)
      have hdi := hd i (by omega)
      have nx := ih (i + 1) (by omega)
      have e : sumg (fun t : Nat => pd (m 20 t) 7 * m 18 t) (i + 1) = sumg (fun t : Nat => pd (m 20 t) 7 * m 18 t) i + pd (m 20 i) 7 * m 18 i := rfl
      rw [e] at nx
      unfold wp_X8_dutyHours_4
      rw [h0, i1 i (by omega)]
      refine bf (by omega) ⟨by omega, sp_bc32 ⟨by omega, eqm ?_⟩⟩
      rw [bc32_7 (by omega)]
      generalize pd (m 20 i) 7 * m 18 i = y at hbi nx ⊢
      generalize sumg (fun t : Nat => pd (m 20 t) 7 * m 18 t) i = z at hs nx ⊢
      rw [w32_i (x := y) (by omega), w32_i (by omega)]
      exact nx
  exact ⟨K + 1, key K 0 (by omega)⟩
