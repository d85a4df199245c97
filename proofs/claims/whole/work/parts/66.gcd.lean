/-! Euclid -/
theorem tmod_g {a b : Int} (ha : 0 ≤ a) (hb : 0 < b) : Int.tmod a b = a % b ∧ 0 ≤ a % b ∧ a % b < b := ⟨Int.tmod_eq_emod_of_nonneg ha, Int.emod_nonneg a (by omega), Int.emod_lt_of_pos a hb⟩
theorem gcd_mod (a b : Nat) : Nat.gcd b (a % b) = Nat.gcd a b := by rw [Nat.gcd_comm b (a % b), ← Nat.gcd_rec, Nat.gcd_comm]
theorem sp_70 {K : Int → Int → Mem → Prop} {post : Int → Mem → Prop} {w : Int} {m : Mem} : ∀ (b a : Nat), K w (Nat.gcd a b : Nat) m → ∃ n : Nat, wp_X11_share_70 K post n w a b m := by
  intro b
  induction b using Nat.strongRecOn with
  | ind b ih =>
    intro a h
    by_cases hb : b = 0
    · subst hb
      refine ⟨1, ?_⟩
      unfold wp_X11_share_70
      rw [Nat.gcd_zero_right] at h
      exact bt (by decide) h
    · obtain ⟨n, hn⟩ := ih (a % b) (Nat.mod_lt a (by omega)) b (by rw [gcd_mod]; exact h)
      refine ⟨n + 1, ?_⟩
      unfold wp_X11_share_70
      refine bf (by rw [lcmp_0]; omega) ⟨by omega, eqm ?_⟩
      have e : Int.tmod (a : Int) (b : Int) = ((a % b : Nat) : Int) := by rw [(tmod_g (by omega) (by omega)).1]; rfl
      rw [e]
      exact hn
