/-! choices told by codes -/
def dig (B T x k : Nat) : Nat := x / B ^ (T - 1 - k) % B
def pre (B T x k : Nat) : Nat := x / B ^ (T - k)
theorem pre_d {B T x k : Nat} (hk : k < T) : pre B T x (k + 1) % B = dig B T x k := by
  unfold pre dig
  rw [show T - (k + 1) = T - 1 - k by omega]
theorem pre_q {B T x k : Nat} (hk : k < T) : pre B T x (k + 1) / B = pre B T x k := by
  unfold pre
  rw [Nat.div_div_eq_div_mul, ← Nat.pow_succ, show (T - (k + 1)).succ = T - k by omega]
theorem pre_s {B T x k : Nat} (hk : k < T) : pre B T x (k + 1) = pre B T x k * B + dig B T x k := by
  rw [← pre_d hk, ← pre_q hk, Nat.div_add_mod']
theorem pre_0 {B T x : Nat} (hx : x < B ^ T) : pre B T x 0 = 0 := Nat.div_eq_of_lt hx
theorem pre_T (B T x : Nat) : pre B T x T = x := by
  unfold pre
  rw [Nat.sub_self, Nat.pow_zero, Nat.div_one]
theorem dig_lt {B T x k : Nat} (hB : 0 < B) : dig B T x k < B := Nat.mod_lt _ hB
theorem lex_s {B a b x y : Nat} (ha : a < B) (hb : b < B) : (x * B + a < y * B + b ↔ (x < y ∨ (x = y ∧ a < b))) ∧ (x * B + a = y * B + b ↔ (x = y ∧ a = b)) := by
  rcases Nat.lt_trichotomy x y with h | h | h
  · have := Nat.mul_le_mul_right B (show x + 1 ≤ y from h)
    rw [Nat.add_mul] at this
    omega
  · subst h; omega
  · have := Nat.mul_le_mul_right B (show y + 1 ≤ x from h)
    rw [Nat.add_mul] at this
    omega
theorem cod_cmp {B B' T x y x' y' : Nat} (hB : 0 < B) (hB' : 0 < B') (hx : x < B ^ T) (hy : y < B ^ T) (hx' : x' < B' ^ T) (hy' : y' < B' ^ T) (h : ∀ k : Nat, k < T → (dig B T x k < dig B T y k ↔ dig B' T x' k < dig B' T y' k) ∧ (dig B T x k = dig B T y k ↔ dig B' T x' k = dig B' T y' k)) : (x < y ↔ x' < y') ∧ (x = y ↔ x' = y') := by
  have key : ∀ k : Nat, k ≤ T → (pre B T x k < pre B T y k ↔ pre B' T x' k < pre B' T y' k) ∧ (pre B T x k = pre B T y k ↔ pre B' T x' k = pre B' T y' k) := by
    intro k
    induction k with
    | zero => intro _; rw [pre_0 hx, pre_0 hy, pre_0 hx', pre_0 hy']; omega
    | succ k ih =>
      intro hk
      have ih := ih (by omega)
      have hd := h k (by omega)
      rw [pre_s (by omega), pre_s (by omega), pre_s (by omega), pre_s (by omega)]
      have l1 := lex_s (x := pre B T x k) (y := pre B T y k) (dig_lt (T := T) (x := x) (k := k) hB) (dig_lt (T := T) (x := y) (k := k) hB)
      have l2 := lex_s (x := pre B' T x' k) (y := pre B' T y' k) (dig_lt (T := T) (x := x') (k := k) hB') (dig_lt (T := T) (x := y') (k := k) hB')
      rw [l1.1, l1.2, l2.1, l2.2, ih.1, ih.2, hd.1, hd.2]
      exact ⟨Iff.rfl, Iff.rfl⟩
  have := key T (Nat.le_refl _)
  rw [pre_T, pre_T, pre_T, pre_T] at this
  exact this
theorem cod_ex {B : Nat} (hB : 0 < B) : ∀ (T : Nat) (e : Nat → Nat), (∀ k : Nat, k < T → e k < B) → ∃ x : Nat, x < B ^ T ∧ ∀ k : Nat, k < T → dig B T x k = e k
  | 0, e, _ => ⟨0, by rw [Nat.pow_zero]; omega, fun k hk => by omega⟩
  | T + 1, e, h => by
    obtain ⟨x, x1, x2⟩ := cod_ex hB T e (fun k hk => h k (by omega))
    have he := h T (by omega)
    have hq : (x * B + e T) / B = x := by rw [Nat.mul_comm, Nat.mul_add_div hB, Nat.div_eq_of_lt he, Nat.add_zero]
    refine ⟨x * B + e T, ?_, fun k hk => ?_⟩
    · have := Nat.mul_le_mul_right B (show x + 1 ≤ B ^ T from x1)
      rw [Nat.add_mul] at this
      rw [Nat.pow_succ]
      omega
    · unfold dig
      by_cases q : k = T
      · rw [q, show T + 1 - 1 - T = 0 by omega, Nat.pow_zero, Nat.div_one, Nat.mul_comm, Nat.mul_add_mod, Nat.mod_eq_of_lt he]
      · rw [← x2 k (by omega), show T + 1 - 1 - k = (T - 1 - k) + 1 by omega, Nat.pow_succ, Nat.mul_comm (B ^ (T - 1 - k)) B, ← Nat.div_div_eq_div_mul, hq]
        rfl
/-- how many yards below y are neither c nor f -/
def el (c f y : Int) : Int := y - (if c < y then 1 else 0) - (if f < y then 1 else 0)
theorem el_m {c f y z : Int} (hcf : ¬ c = f) (h1 : ¬ y = c) (h2 : ¬ y = f) (h3 : ¬ z = c) (h4 : ¬ z = f) (h : y < z) : el c f y < el c f z := by
  unfold el
  split <;> split <;> split <;> split <;> omega
theorem el_u {c f y z : Int} (hcf : ¬ c = f) (h1 : ¬ y = c) (h2 : ¬ y = f) (h3 : ¬ z = c) (h4 : ¬ z = f) (h : el c f y = el c f z) : y = z := by
  rcases Int.lt_trichotomy y z with q | q | q
  · have := el_m hcf h1 h2 h3 h4 q; omega
  · exact q
  · have := el_m hcf h3 h4 h1 h2 q; omega
theorem el_r {c f y n : Int} (hcf : ¬ c = f) (hc : 0 ≤ c ∧ c < n) (hf : 0 ≤ f ∧ f < n) (h1 : ¬ y = c) (h2 : ¬ y = f) (hy : 0 ≤ y ∧ y < n) : 0 ≤ el c f y ∧ el c f y ≤ n - 3 := by
  unfold el
  split <;> split <;> omega
theorem el_e {c f n : Int} (hcf : ¬ c = f) (hc : 0 ≤ c ∧ c < n) (hf : 0 ≤ f ∧ f < n) {i : Int} (hi : 0 ≤ i ∧ i ≤ n - 3) : ∃ y : Int, (0 ≤ y ∧ y < n) ∧ ¬ y = c ∧ ¬ y = f ∧ el c f y = i := by
  have t : ∀ y : Int, (y = i ∨ y = i + 1 ∨ y = i + 2) → ¬ y = c → ¬ y = f → y - (if c < y then 1 else 0) - (if f < y then 1 else 0) = i → ∃ y : Int, (0 ≤ y ∧ y < n) ∧ ¬ y = c ∧ ¬ y = f ∧ el c f y = i := fun y h h1 h2 h3 => ⟨y, by omega, h1, h2, h3⟩
  by_cases a : i < c ∧ i < f
  · exact t i (by omega) (by omega) (by omega) (by rw [if_neg (by omega), if_neg (by omega)]; omega)
  · by_cases b : c ≤ i ∧ i + 1 < f
    · exact t (i + 1) (by omega) (by omega) (by omega) (by rw [if_pos (by omega), if_neg (by omega)]; omega)
    · by_cases d : f ≤ i ∧ i + 1 < c
      · exact t (i + 1) (by omega) (by omega) (by omega) (by rw [if_neg (by omega), if_pos (by omega)]; omega)
      · exact t (i + 2) (by omega) (by omega) (by omega) (by rw [if_pos (by omega), if_pos (by omega)]; omega)
/-- a figure of the class's code that tells a choice -/
def VD (c f : Int) (e : Nat) : Prop := ¬ (e : Int) - 1 = c ∧ ¬ (e : Int) - 1 = f
/-- the reference's figure i and the class's figure e tell the same choice -/
def DR (c f : Int) (i e : Nat) : Prop := (i = 0 ∧ e = 0) ∨ (1 ≤ i ∧ 1 ≤ e ∧ VD c f e ∧ el c f ((e : Int) - 1) = (i : Int) - 1)
theorem dr_cmp {c f : Int} (hcf : ¬ c = f) {i e i' e' : Nat} (h : DR c f i e) (h' : DR c f i' e') : (i < i' ↔ e < e') ∧ (i = i' ↔ e = e') := by
  unfold DR VD at h h'
  rcases h with h | ⟨a1, a2, ⟨a3, a4⟩, a5⟩
  · rcases h' with h' | h'
    · omega
    · omega
  · rcases h' with h' | ⟨b1, b2, ⟨b3, b4⟩, b5⟩
    · omega
    · rcases Nat.lt_trichotomy e e' with q | q | q
      · have := el_m hcf a3 a4 b3 b4 (show (e : Int) - 1 < (e' : Int) - 1 by omega)
        omega
      · subst q; omega
      · have := el_m hcf b3 b4 a3 a4 (show (e' : Int) - 1 < (e : Int) - 1 by omega)
        omega
theorem dr_1 {n : Nat} {c f : Int} (hcf : ¬ c = f) (hc : 0 ≤ c ∧ c < n) (hf : 0 ≤ f ∧ f < n) {i : Nat} (hi : i < n - 1) : ∃ e : Nat, e < n + 1 ∧ VD c f e ∧ DR c f i e := by
  by_cases z : i = 0
  · exact ⟨0, by omega, ⟨by omega, by omega⟩, Or.inl ⟨z, rfl⟩⟩
  · obtain ⟨y, y1, y2, y3, y4⟩ := el_e (n := n) hcf hc hf (i := (i : Int) - 1) (by omega)
    have e : (((y + 1).toNat : Nat) : Int) - 1 = y := by omega
    have v : VD c f (y + 1).toNat := by unfold VD; rw [e]; exact ⟨y2, y3⟩
    exact ⟨(y + 1).toNat, by omega, v, Or.inr ⟨by omega, by omega, v, by rw [e]; exact y4⟩⟩
theorem dr_2 {n : Nat} {c f : Int} (hcf : ¬ c = f) (hc : 0 ≤ c ∧ c < n) (hf : 0 ≤ f ∧ f < n) {e : Nat} (he : e < n + 1) (hv : VD c f e) : ∃ i : Nat, i < n - 1 ∧ DR c f i e := by
  by_cases z : e = 0
  · exact ⟨0, by omega, Or.inl ⟨rfl, z⟩⟩
  · have h := el_r (n := n) hcf hc hf hv.1 hv.2 (by omega)
    exact ⟨(el c f ((e : Int) - 1) + 1).toNat, by omega, Or.inr ⟨by omega, by omega, hv, by omega⟩⟩
