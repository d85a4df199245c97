/-! what a net costs: the adding up -/
def cs (ld A : Int → Int) (a b : Nat) (x : Int) : Int := if x = -1 then -1 else if ld (8 * (a : Int) + b) ≤ 0 then x else if A (8 * (a : Int) + b) < 1000000 then x + ld (8 * (a : Int) + b) * A (8 * (a : Int) + b) else -1
def cro (ld A : Int → Int) (n a : Nat) (x : Int) : Int := fd (cs ld A a) n x
def cto (ld A : Int → Int) (n : Nat) : Int := fd (cro ld A n) n 0
theorem fd_k {g : Nat → Int → Int} (hg : ∀ i : Nat, g i (-1) = -1) {k : Nat} {h : Int} (hk : fd g k h = -1) : ∀ j : Nat, fd g (k + j) h = -1
  | 0 => hk
  | j + 1 => by show g (k + j) (fd g (k + j) h) = -1; rw [fd_k hg hk j, hg]
theorem cs_1 (ld A : Int → Int) (a b : Nat) : cs ld A a b (-1) = -1 := by unfold cs; rw [if_pos rfl]
theorem fd_m {g : Nat → Int → Int} (hg : ∀ i : Nat, g i (-1) = -1) : ∀ k : Nat, fd g k (-1) = -1
  | 0 => rfl
  | k + 1 => by show g k (fd g k (-1)) = -1; rw [fd_m hg k, hg]
theorem cro_1 (ld A : Int → Int) (n a : Nat) : cro ld A n a (-1) = -1 := fd_m (cs_1 ld A a) n
/-- loads and lengths that may be added up -/
def CR (n : Nat) (ld A : Int → Int) : Prop := ∀ a b : Nat, a < n → b < n → (0 ≤ ld (8 * (a : Int) + b) ∧ ld (8 * (a : Int) + b) ≤ 99) ∧ (0 < ld (8 * (a : Int) + b) → (A (8 * (a : Int) + b) < 1000000 → 0 ≤ A (8 * (a : Int) + b) ∧ A (8 * (a : Int) + b) ≤ 100000))
theorem mul_b {x y : Int} (hx : 0 ≤ x ∧ x ≤ 99) (hy : 0 ≤ y ∧ y ≤ 100000) : 0 ≤ x * y ∧ x * y ≤ 9900000 :=
  ⟨Int.mul_nonneg hx.1 hy.1, Int.le_trans (Int.mul_le_mul hx.2 hy.2 hy.1 (by omega)) (by decide)⟩
theorem cs_r {n : Nat} {ld A : Int → Int} (h : CR n ld A) {a b : Nat} (ha : a < n) (hb : b < n) {x B : Int} (hx : x = -1 ∨ (0 ≤ x ∧ x ≤ B)) : cs ld A a b x = -1 ∨ (0 ≤ cs ld A a b x ∧ cs ld A a b x ≤ B + 9900000) := by
  unfold cs
  obtain ⟨h1, h2⟩ := h a b ha hb
  split
  · exact Or.inl rfl
  · split
    · omega
    · split
      · rename_i q1 q2 q3
        have := mul_b h1 (h2 (by omega) q3)
        omega
      · exact Or.inl rfl
theorem row_r {n : Nat} {ld A : Int → Int} (h : CR n ld A) {a : Nat} (ha : a < n) {x B : Int} (hx : x = -1 ∨ (0 ≤ x ∧ x ≤ B)) : ∀ b : Nat, b ≤ n → fd (cs ld A a) b x = -1 ∨ (0 ≤ fd (cs ld A a) b x ∧ fd (cs ld A a) b x ≤ B + 9900000 * b)
  | 0, _ => by show x = -1 ∨ (0 ≤ x ∧ x ≤ B + 9900000 * 0); omega
  | b + 1, hb => by
    have ih := row_r h ha hx b (by omega)
    have := cs_r h ha (show b < n by omega) ih
    show cs ld A a b (fd (cs ld A a) b x) = -1 ∨ _
    have e : fd (cs ld A a) (b + 1) x = cs ld A a b (fd (cs ld A a) b x) := rfl
    rw [e]
    omega
theorem tot_r {n : Nat} (hn : n ≤ 8) {ld A : Int → Int} (h : CR n ld A) : ∀ a : Nat, a ≤ n → fd (cro ld A n) a 0 = -1 ∨ (0 ≤ fd (cro ld A n) a 0 ∧ fd (cro ld A n) a 0 ≤ 79200000 * a)
  | 0, _ => by show (0 : Int) = -1 ∨ ((0 : Int) ≤ 0 ∧ (0 : Int) ≤ 79200000 * 0); omega
  | a + 1, ha => by
    have ih := tot_r hn h a (by omega)
    have := row_r h (show a < n by omega) ih n (by omega)
    have e : fd (cro ld A n) (a + 1) 0 = fd (cs ld A a) n (fd (cro ld A n) a 0) := rfl
    rw [e]
    omega
theorem sp_costC {n : Nat} (hn : n ≤ 8) {m : Mem} {post : Int → Mem → Prop} (h0 : m 1 0 = n) (hR : CR n (m 44) (m 46)) (H : post (cto (m 44) (m 46) n) m) : ∃ f : Nat, wp_X5_costOf_27 post f 0 0 m := by
  have inner : ∀ (K : Int → Int → Mem → Prop) (a : Nat) (x : Int), a < n → (x = -1 ∨ (0 ≤ x ∧ x ≤ 79200000 * a)) → (¬ cro (m 44) (m 46) n a x = -1 → K (cro (m 44) (m 46) n a x) ((a + 1 : Nat) : Int) m) → (cro (m 44) (m 46) n a x = -1 → post (-1) m) → ∀ r b : Nat, b + r = n → ¬ fd (cs (m 44) (m 46) a) b x = -1 → wp_X5_costOf_39 K post (r + 1) (fd (cs (m 44) (m 46) a) b x) a b m := by
    intro K a x ha hx hK hB r
    induction r with
    | zero =>
      intro b hb hne
      unfold wp_X5_costOf_39
      rw [h0, i1 a (by omega)]
      refine bt (by omega) ?_
      unfold cro at hK
      rw [show n = b by omega] at hK
      have := hK hne
      rw [show b = b from rfl]
      exact this
    | succ r ih =>
      intro b hb hne
      have hr := row_r hR ha hx b (by omega)
      have hc := hR a b ha (by omega)
      have nx := ih (b + 1) (by omega)
      have e : fd (cs (m 44) (m 46) a) (b + 1) x = cs (m 44) (m 46) a b (fd (cs (m 44) (m 46) a) b x) := rfl
      have st : fd (cs (m 44) (m 46) a) (b + 1) x = -1 → post (-1) m := fun z => by
        have := fd_k (cs_1 (m 44) (m 46) a) z (n - (b + 1))
        rw [show b + 1 + (n - (b + 1)) = n by omega] at this
        exact hB this
      rw [e] at nx st
      generalize fd (cs (m 44) (m 46) a) b x = y at hne hr nx st ⊢
      unfold wp_X5_costOf_39
      rw [h0, ix8 (by omega) (by omega) (by omega) (by omega)]
      refine bf (by omega) ⟨by omega, eqm ?_⟩
      unfold cs at nx st
      rw [if_neg hne] at nx st
      refine ⟨fun q => ?_, fun q => ⟨by omega, fun q2 => ?_, fun q2 => ?_⟩⟩
      · rw [if_pos q] at nx
        unfold wp_X5_costOf_88
        refine bt q (eqm ?_)
        rw [w32_i (by omega), Int.add_zero, i1 b (by omega)]
        exact nx hne
      · rw [if_neg q, if_pos q2] at nx
        have hm := mul_b hc.1 (hc.2 (by omega) q2)
        unfold wp_X5_costOf_88
        rw [ix8 (by omega) (by omega) (by omega) (by omega)]
        refine bf q ⟨by omega, eqm ?_⟩
        rw [w32_i (x := m 44 (8 * (a : Int) + b) * m 46 (8 * (a : Int) + b)) (by omega), w32_i (by omega), i1 b (by omega)]
        exact nx (by omega)
      · rw [if_neg q, if_neg q2] at st
        exact st rfl
  have outer : ∀ r a : Nat, a + r = n → ¬ fd (cro (m 44) (m 46) n) a 0 = -1 → wp_X5_costOf_27 post (r + 1) (fd (cro (m 44) (m 46) n) a 0) a m := by
    intro r
    induction r with
    | zero =>
      intro a ha hne
      unfold wp_X5_costOf_27
      rw [h0]
      refine bt (by omega) ?_
      have e : cto (m 44) (m 46) n = fd (cro (m 44) (m 46) n) a 0 := by unfold cto; rw [show a = n by omega]
      rw [← e]
      exact H
    | succ r ih =>
      intro a ha hne
      unfold wp_X5_costOf_27
      rw [h0]
      refine bf (by omega) ⟨n + 1, inner _ a (fd (cro (m 44) (m 46) n) a 0) (by omega) (tot_r hn hR a (by omega)) (fun z => ih (a + 1) (by omega) z) (fun z => ?_) n 0 (by omega) hne⟩
      have z' : fd (cro (m 44) (m 46) n) (a + 1) 0 = -1 := z
      have := fd_k (cro_1 (m 44) (m 46) n) z' (n - (a + 1))
      rw [show a + 1 + (n - (a + 1)) = n by omega] at this
      have e : cto (m 44) (m 46) n = -1 := this
      rw [e] at H
      exact H
  exact ⟨n + 1, outer n 0 (by omega) (by show ¬ (0 : Int) = -1; omega)⟩
theorem sp_costM {n : Nat} (hn : n ≤ 8) {m : Mem} {ld A : Int → Int} {post : Int → Mem → Prop} (h0 : m 67 0 = n) (hR : CR n ld A) (hl : ∀ a b : Nat, a < n → b < n → m 81 (8 * (a : Int) + b) = ld (8 * (a : Int) + b) ∧ (0 < ld (8 * (a : Int) + b) → (A (8 * (a : Int) + b) < 1000000 ∧ m 86 (8 * (a : Int) + b) < 100000000 ∧ m 86 (8 * (a : Int) + b) - m 67 24 = A (8 * (a : Int) + b)) ∨ (¬ A (8 * (a : Int) + b) < 1000000 ∧ ¬ m 86 (8 * (a : Int) + b) < 100000000))) (H : post (cto ld A n) m) : ∃ f : Nat, wp_X11_costOf_14 post f 0 0 m := by
  have inner : ∀ (K : Int → Int → Mem → Prop) (a : Nat) (x : Int), a < n → (x = -1 ∨ (0 ≤ x ∧ x ≤ 79200000 * a)) → (¬ cro ld A n a x = -1 → K (cro ld A n a x) ((a + 1 : Nat) : Int) m) → (cro ld A n a x = -1 → post (-1) m) → ∀ r b : Nat, b + r = n → ¬ fd (cs ld A a) b x = -1 → wp_X11_costOf_26 K post (r + 1) (fd (cs ld A a) b x) a b m := by
    intro K a x ha hx hK hB r
    induction r with
    | zero =>
      intro b hb hne
      unfold wp_X11_costOf_26
      rw [h0, i1 a (by omega)]
      refine bt (by omega) ?_
      unfold cro at hK
      rw [show n = b by omega] at hK
      exact hK hne
    | succ r ih =>
      intro b hb hne
      have hr := row_r hR ha hx b (by omega)
      have hc := hR a b ha (by omega)
      obtain ⟨hl1, hl2⟩ := hl a b ha (by omega)
      have nx := ih (b + 1) (by omega)
      have e : fd (cs ld A a) (b + 1) x = cs ld A a b (fd (cs ld A a) b x) := rfl
      have st : fd (cs ld A a) (b + 1) x = -1 → post (-1) m := fun z => by
        have := fd_k (cs_1 ld A a) z (n - (b + 1))
        rw [show b + 1 + (n - (b + 1)) = n by omega] at this
        exact hB this
      rw [e] at nx st
      generalize fd (cs ld A a) b x = y at hne hr nx st ⊢
      unfold wp_X11_costOf_26
      rw [h0, ix8' (by omega) (by omega) (by omega) (by omega), i1 b (by omega), hl1]
      refine bf (by omega) ⟨by omega, ?_⟩
      unfold cs at nx st
      rw [if_neg hne] at nx st
      refine ⟨fun q => ?_, fun q => ⟨by omega, fun q2 => ⟨by omega, by omega, eqm ?_⟩, fun q2 => ?_⟩⟩
      · rw [if_pos q] at nx
        exact nx hne
      · rcases hl2 (by omega) with w | w
        · rw [if_neg q, if_pos w.1] at nx
          have hm := mul_b hc.1 (hc.2 (by omega) w.1)
          have hA := hc.2 (by omega) w.1
          rw [w.2.2, w32_i (x := A (8 * (a : Int) + b)) (by omega), w32_i (x := ld (8 * (a : Int) + b) * A (8 * (a : Int) + b)) (by omega), w32_i (by omega)]
          exact nx (by omega)
        · exact absurd q2 w.2
      · rcases hl2 (by omega) with w | w
        · exact absurd w.2.1 q2
        · rw [if_neg q, if_neg w.1] at st
          exact st rfl
  have outer : ∀ r a : Nat, a + r = n → ¬ fd (cro ld A n) a 0 = -1 → wp_X11_costOf_14 post (r + 1) (fd (cro ld A n) a 0) a m := by
    intro r
    induction r with
    | zero =>
      intro a ha hne
      unfold wp_X11_costOf_14
      rw [h0]
      refine bt (by omega) ?_
      have e : cto ld A n = fd (cro ld A n) a 0 := by unfold cto; rw [show a = n by omega]
      rw [← e]
      exact H
    | succ r ih =>
      intro a ha hne
      unfold wp_X11_costOf_14
      rw [h0]
      refine bf (by omega) ⟨n + 1, inner _ a (fd (cro ld A n) a 0) (by omega) (tot_r hn hR a (by omega)) (fun z => ih (a + 1) (by omega) z) (fun z => ?_) n 0 (by omega) hne⟩
      have z' : fd (cro ld A n) (a + 1) 0 = -1 := z
      have := fd_k (cro_1 ld A n) z' (n - (a + 1))
      rw [show a + 1 + (n - (a + 1)) = n by omega] at this
      have e : cto ld A n = -1 := this
      rw [e] at H
      exact H
  exact ⟨n + 1, outer n 0 (by omega) (by show ¬ (0 : Int) = -1; omega)⟩
