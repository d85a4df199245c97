/-! legs: made short -/
theorem sp_reduce {a b : Nat} (ha : 0 < a) (hb : 0 < b) (hb2 : b ≤ 10000000000) {m : Mem} {post : Mem → Prop} (H : post (mset (mset m 59 1 (w64 (Int.tdiv (a : Int) (Nat.gcd b a : Nat)))) 59 2 (w64 (Int.tdiv (b : Int) (Nat.gcd b a : Nat))))) : wp_X4_reduce a b m post := by
  have hg : 0 < Nat.gcd b a := Nat.gcd_pos_of_pos_left a hb
  have hl : ¬ lcmp ((Nat.gcd b a : Nat) : Int) 0 ≤ 0 := by
    unfold lcmp
    rw [if_pos (by omega)]
    decide
  have hm : b % a ≤ b := Nat.mod_le b a
  have h34 : (2 : Nat) ^ 34 = 17179869184 := by decide
  have fin : wp_X4_reduce_44 a b (Nat.gcd b a : Nat) m post := by
    unfold wp_X4_reduce_44 wp_X4_reduce_60
    exact bf hl ⟨by omega, eqm (bf hl ⟨by omega, eqm H⟩)⟩
  obtain ⟨n, hn⟩ := sp_red9 (K := fun v1_2 v3_2 v5_2 m_2 => wp_X4_reduce_44 v1_2 v3_2 v5_2 m_2 post) (post := post) (x := a) (y := b) (m := m) 34 a (b % a) 1 (by omega) (by decide) (by rw [gcd_mod]; exact fin)
  unfold wp_X4_reduce
  refine ⟨n + 1, ?_⟩
  unfold wp_X4_reduce_9
  have e : Int.tmod (b : Int) (a : Int) = ((b % a : Nat) : Int) := by rw [(tmod_g (by omega) (by omega)).1]; rfl
  rw [e]
  exact bf (by decide) (bf (by rw [lcmp_0]; omega) ⟨by omega, eqm hn⟩)
