/-! Euclid -/
theorem tmod_g {a b : Int} (ha : 0 ≤ a) (hb : 0 < b) : Int.tmod a b = a % b ∧ 0 ≤ a % b ∧ a % b < b := ⟨Int.tmod_eq_emod_of_nonneg ha, Int.emod_nonneg a (by omega), Int.emod_lt_of_pos a hb⟩
theorem gcd_mod (a b : Nat) : Nat.gcd b (a % b) = Nat.gcd a b := by rw [Nat.gcd_comm b (a % b), ← Nat.gcd_rec, Nat.gcd_comm]
theorem sp_70 {K : Int → Int → Mem → Prop} {post : Int → Mem → Prop} {w : Int} {m : Mem} : ∀ (b a : Nat), K w (Nat.gcd a b : Nat) m → ∃ n : Nat, wp_X11_share_70 K post n w a b m := by
  intro b
  induction b using Nat.strongRecOn with
  | ind b ih =>
    intro a h
    by_cases hb : b = 0
    · subst hb
      refine ⟨1, ?_⟩
      unfold wp_X11_share_70
      rw [Nat.gcd_zero_right] at h
      exact bt (by decide) h
    · obtain ⟨n, hn⟩ := ih (a % b) (Nat.mod_lt a (by omega)) b (by rw [gcd_mod]; exact h)
      refine ⟨n + 1, ?_⟩
      unfold wp_X11_share_70
      refine bf (by rw [lcmp_0]; omega) ⟨by omega, eqm ?_⟩
      have e : Int.tmod (a : Int) (b : Int) = ((a % b : Nat) : Int) := by rw [(tmod_g (by omega) (by omega)).1]; rfl
      rw [e]
      exact hn
theorem sp_red9 {K : Int → Int → Int → Mem → Prop} {post : Mem → Prop} {x y : Int} {m : Mem} : ∀ (k a b i : Nat), b < 2 ^ k → i + 2 * k + 1 ≤ 100 → K x y (Nat.gcd a b : Nat) m → ∃ n : Nat, wp_X4_reduce_9 K post n x y a b i m := by
  have stp0 : ∀ (a i : Nat), i < 100 → K x y (Nat.gcd a 0 : Nat) m → ∃ n : Nat, wp_X4_reduce_9 K post n x y a ((0 : Nat) : Int) i m := fun a i hi h => by
    refine ⟨1, ?_⟩
    unfold wp_X4_reduce_9
    rw [Nat.gcd_zero_right] at h
    exact bf (by omega) (bt (by decide) h)
  have stp1 : ∀ (a b i : Nat), i < 100 → ¬ b = 0 → (∃ n : Nat, wp_X4_reduce_9 K post n x y b ((a % b : Nat) : Int) ((i + 1 : Nat) : Int) m) → ∃ n : Nat, wp_X4_reduce_9 K post n x y a b i m := fun a b i hi hb h => by
    obtain ⟨n, hn⟩ := h
    refine ⟨n + 1, ?_⟩
    unfold wp_X4_reduce_9
    have e : Int.tmod (a : Int) (b : Int) = ((a % b : Nat) : Int) := by rw [(tmod_g (by omega) (by omega)).1]; rfl
    rw [e, i1 i (by omega)]
    exact bf (by omega) (bf (by rw [lcmp_0]; omega) ⟨by omega, eqm hn⟩)
  intro k
  induction k with
  | zero =>
    intro a b i hb hi h
    have e : b = 0 := by have : (2 : Nat) ^ 0 = 1 := rfl; omega
    subst e
    exact stp0 a i (by omega) h
  | succ k ih =>
    intro a b i hb hi h
    by_cases z : b = 0
    · subst z; exact stp0 a i (by omega) h
    · refine stp1 a b i (by omega) z ?_
      have h2 : K x y (Nat.gcd b (a % b) : Nat) m := by rw [gcd_mod]; exact h
      have hc : a % b < b := Nat.mod_lt a (by omega)
      generalize a % b = c at h2 hc ⊢
      by_cases z2 : c = 0
      · subst z2; exact stp0 b (i + 1) (by omega) h2
      · refine stp1 b c (i + 1) (by omega) z2 (ih c (b % c) (i + 1 + 1) ?_ (by omega) (by rw [gcd_mod]; exact h2))
        have g1 : b % c < c := Nat.mod_lt b (by omega)
        have g2 : b % c + c ≤ b := by
          have := Nat.div_add_mod b c
          have hq : 1 ≤ b / c := Nat.div_pos (by omega) (by omega)
          have := Nat.mul_le_mul_left c hq
          omega
        have e2 : (2 : Nat) ^ (k + 1) = 2 * 2 ^ k := by rw [Nat.pow_succ]; omega
        omega
