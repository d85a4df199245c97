/-! pure part: small rows -/
theorem z1 {A B : Prop} (h : B) : ((1 : Int) = 0 → A) ∧ (¬ (1 : Int) = 0 → B) := ⟨fun e => absurd e (by decide), fun _ => h⟩
theorem n1 {A B : Prop} (h : A) : (¬ (1 : Int) = 0 → A) ∧ ((1 : Int) = 0 → B) := ⟨fun _ => h, fun e => absurd e (by decide)⟩
theorem z0 {A B : Prop} (h : A) : ((0 : Int) = 0 → A) ∧ (¬ (0 : Int) = 0 → B) := ⟨fun _ => h, fun e => absurd rfl e⟩
theorem n0 {A B : Prop} (h : B) : (¬ (0 : Int) = 0 → A) ∧ ((0 : Int) = 0 → B) := ⟨fun e => absurd rfl e, fun _ => h⟩
theorem bt {c A B : Prop} (hc : c) (h : A) : (c → A) ∧ (¬ c → B) := ⟨fun _ => h, fun e => absurd hc e⟩
theorem bf {c A B : Prop} (hc : ¬ c) (h : B) : (c → A) ∧ (¬ c → B) := ⟨fun e => absurd e hc, fun _ => h⟩
theorem nt {c A B : Prop} (hc : ¬ c) (h : A) : (¬ c → A) ∧ (c → B) := ⟨fun _ => h, fun e => absurd e hc⟩
theorem nf {c A B : Prop} (hc : c) (h : B) : (¬ c → A) ∧ (c → B) := ⟨fun e => absurd hc e, fun _ => h⟩
theorem eqm {α : Sort _} {e : α} {P : α → Prop} (h : P e) : ∀ x, x = e → P x := fun x hx => by subst hx; exact h
theorem w32_i {x : Int} (h : -2147483648 ≤ x ∧ x < 2147483648) : w32 x = x := w32_id h.1 h.2
theorem ix8 {a b : Int} (ha : 0 ≤ a) (ha2 : a < 8) (hb : 0 ≤ b) (hb2 : b < 8) : w32 (w32 (a * 8) + b) = 8 * a + b := by unfold w32; omega
theorem ix8' {a b : Int} (ha : 0 ≤ a) (ha2 : a < 8) (hb : 0 ≤ b) (hb2 : b < 8) : w32 (w32 (8 * a) + b) = 8 * a + b := by unfold w32; omega
theorem mset_ne {m : Mem} {c i v c' i' : Int} (h : ¬ (c' = c ∧ i' = i)) : mset m c i v c' i' = m c' i' := by unfold mset; rw [if_neg h]
theorem mset_at (m : Mem) (c i v c' i' : Int) : mset m c i v c' i' = if c' = c ∧ i' = i then v else m c' i' := rfl
/-! the small questions -/
theorem sp_X3_has {a : Int} {m : Mem} {post : Int → Mem → Prop} (h1 : 0 ≤ a → a < m 1 0 → post 1 m) (h0 : ¬ (0 ≤ a ∧ a < m 1 0) → post 0 m) : wp_X3_has a m post := by
  unfold wp_X3_has
  exact ⟨fun h => h0 (by omega), fun h => ⟨fun h2 => h0 (by omega), fun h2 => h1 (by omega) (by omega)⟩⟩
theorem sp_X3_hasPair {a b : Int} {m : Mem} {post : Int → Mem → Prop} (h1 : 0 ≤ a → a < m 1 0 → 0 ≤ b → b < m 1 0 → a ≠ b → post 1 m) (h0 : ¬ (0 ≤ a ∧ a < m 1 0 ∧ 0 ≤ b ∧ b < m 1 0 ∧ a ≠ b) → post 0 m) : wp_X3_hasPair a b m post := by
  unfold wp_X3_hasPair
  refine sp_X3_has (fun a1 a2 => z1 (sp_X3_has (fun b1 b2 => z1 ⟨fun e => h0 (by omega), fun e => h1 a1 a2 b1 b2 e⟩) (fun b1 => z0 (h0 (by omega))))) (fun a1 => z0 (h0 (by omega)))
theorem sp_X0_has {a : Int} {m : Mem} {post : Int → Mem → Prop} (h1 : 0 ≤ a → a < m 6 0 → post 1 m) (h0 : ¬ (0 ≤ a ∧ a < m 6 0) → post 0 m) : wp_X0_has a m post := by
  unfold wp_X0_has
  exact ⟨fun h => h0 (by omega), fun h => ⟨fun h2 => h0 (by omega), fun h2 => h1 (by omega) (by omega)⟩⟩
theorem sp_X8_has {a : Int} {m : Mem} {post : Int → Mem → Prop} (h1 : 0 ≤ a → a < m 13 0 → post 1 m) (h0 : ¬ (0 ≤ a ∧ a < m 13 0) → post 0 m) : wp_X8_has a m post := by
  unfold wp_X8_has
  exact ⟨fun h => h0 (by omega), fun h => ⟨fun h2 => h0 (by omega), fun h2 => h1 (by omega) (by omega)⟩⟩
theorem sp_X9_has {a : Int} {m : Mem} {post : Int → Mem → Prop} (h1 : 0 ≤ a → a < m 28 4 → post 1 m) (h0 : ¬ (0 ≤ a ∧ a < m 28 4) → post 0 m) : wp_X9_has a m post := by
  unfold wp_X9_has
  exact ⟨fun h => h0 (by omega), fun h => ⟨fun h2 => h0 (by omega), fun h2 => h1 (by omega) (by omega)⟩⟩
theorem sp_X7_has {a : Int} {m : Mem} {post : Int → Mem → Prop} (h1 : 0 ≤ a → a < m 37 0 → post 1 m) (h0 : ¬ (0 ≤ a ∧ a < m 37 0) → post 0 m) : wp_X7_has a m post := by
  unfold wp_X7_has
  exact ⟨fun h => h0 (by omega), fun h => ⟨fun h2 => h0 (by omega), fun h2 => h1 (by omega) (by omega)⟩⟩
theorem sp_in {a lo hi : Int} {m : Mem} {post : Int → Mem → Prop} (h1 : lo ≤ a → a ≤ hi → post 1 m) (h0 : ¬ (lo ≤ a ∧ a ≤ hi) → post 0 m) : wp_X11_in a lo hi m post := by
  unfold wp_X11_in
  exact ⟨fun h => h0 (by omega), fun h => ⟨fun h2 => h0 (by omega), fun h2 => h1 (by omega) (by omega)⟩⟩
theorem sp_isYard {a : Int} {m : Mem} {post : Int → Mem → Prop} (hn : 0 ≤ m 67 0 ∧ m 67 0 ≤ 100) (h1 : 0 ≤ a → a < m 67 0 → post 1 m) (h0 : ¬ (0 ≤ a ∧ a < m 67 0) → post 0 m) : wp_X11_isYard a m post := by
  unfold wp_X11_isYard
  rw [w32_i (by omega)]
  exact sp_in (fun a1 a2 => ⟨Or.inr rfl, h1 (by omega) (by omega)⟩) (fun a1 => ⟨Or.inl rfl, h0 (by omega)⟩)
theorem sp_isBlock {a : Int} {m : Mem} {post : Int → Mem → Prop} (hn : 0 ≤ m 67 4 ∧ m 67 4 ≤ 100) (h1 : 0 ≤ a → a < m 67 4 → post 1 m) (h0 : ¬ (0 ≤ a ∧ a < m 67 4) → post 0 m) : wp_X11_isBlock a m post := by
  unfold wp_X11_isBlock
  rw [w32_i (by omega)]
  exact sp_in (fun a1 a2 => ⟨Or.inr rfl, h1 (by omega) (by omega)⟩) (fun a1 => ⟨Or.inl rfl, h0 (by omega)⟩)
/-! filling a row -/
def mfill (m : Mem) (c lo hi v : Int) : Mem := fun c' i => if c' = c ∧ lo ≤ i ∧ i < hi then v else m c' i
theorem mfill_step {m : Mem} {c i hi v : Int} (h : i < hi) : mfill (mset m c i v) c (i + 1) hi v = mfill m c i hi v := by
  funext c' j
  unfold mfill mset
  by_cases hc : c' = c
  · by_cases h1 : i + 1 ≤ j ∧ j < hi
    · rw [if_pos ⟨hc, h1⟩, if_pos ⟨hc, by omega, h1.2⟩]
    · rw [if_neg (fun q => h1 q.2)]
      by_cases h2 : j = i
      · rw [if_pos ⟨hc, h2⟩, if_pos ⟨hc, by omega, by omega⟩]
      · rw [if_neg (fun q => h2 q.2), if_neg (fun q => by omega)]
  · rw [if_neg (fun q => hc q.1), if_neg (fun q => hc q.1), if_neg (fun q => hc q.1)]
theorem mfill_end {m : Mem} {c i hi v : Int} (h : hi ≤ i) : mfill m c i hi v = m := by
  funext c' j
  unfold mfill
  rw [if_neg (fun q => by omega)]
theorem sp_fill {a v : Int} {m : Mem} {post : Mem → Prop} {N : Int} (hN : alen 67 a = N) (h0 : 0 < N) (hs : N ≤ 1000) (h : post (mfill m a 0 N v)) : wp_J7_fill_53178 a v m post := by
  unfold wp_J7_fill_53178
  refine ⟨by omega, eqm ?_⟩
  have key : ∀ (k : Nat) (i : Int) (m' : Mem), 0 ≤ i → i + k = N → mfill m' a i N v = mfill m a 0 N v → wp_J7_fill_53178_5 post (k + 1) a v i N m' := by
    intro k
    induction k with
    | zero =>
      intro i m' hi hk he
      unfold wp_J7_fill_53178_5
      refine bt (by omega) ?_
      rw [mfill_end (by omega)] at he
      rw [he]; exact h
    | succ k ih =>
      intro i m' hi hk he
      unfold wp_J7_fill_53178_5
      refine bf (by omega) ⟨by omega, eqm ?_⟩
      rw [w32_i (by omega)]
      exact ih (i + 1) _ (by omega) (by omega) (by rw [mfill_step (by omega)]; exact he)
  rw [hN]
  exact ⟨_, key N.toNat 0 m (by omega) (by omega) rfl⟩
theorem sp_fillL {a v : Int} {m : Mem} {post : Mem → Prop} {N : Int} (hN : jlen 67 a = N) (h0 : 0 < N) (hs : N ≤ 1000) (h : post (mfill m a 0 N v)) : wp_J7_fill_d0a16 a v m post := by
  unfold wp_J7_fill_d0a16
  refine ⟨by omega, eqm ?_⟩
  have key : ∀ (k : Nat) (i : Int) (m' : Mem), 0 ≤ i → i + k = N → mfill m' a i N v = mfill m a 0 N v → wp_J7_fill_d0a16_6 post (k + 1) a v i N m' := by
    intro k
    induction k with
    | zero =>
      intro i m' hi hk he
      unfold wp_J7_fill_d0a16_6
      refine bt (by omega) ?_
      rw [mfill_end (by omega)] at he
      rw [he]; exact h
    | succ k ih =>
      intro i m' hi hk he
      unfold wp_J7_fill_d0a16_6
      refine bf (by omega) ⟨by omega, eqm ?_⟩
      rw [w32_i (by omega)]
      exact ih (i + 1) _ (by omega) (by omega) (by rw [mfill_step (by omega)]; exact he)
  rw [hN]
  exact ⟨_, key N.toNat 0 m (by omega) (by omega) rfl⟩
