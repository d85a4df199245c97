/-! reading the page -/
def ylt (n c : Int) : Int := if 65 ≤ c ∧ c < 65 + n then c - 65 else -1
def stk (y a f t r : Int) : Int × Int × Int × Int × Int := if y = -1 ∨ y = a ∨ ¬ and32 (shr32 t y) 1 = 0 then (-1, a, f, t, r) else (5, a, f, or32 t (shl32 1 y), r)
/-- one letter c read behind place p -/
def stp (n c p a f t r : Int) : Int × Int × Int × Int × Int :=
  if p = 0 then (if ylt n c = -1 then (-1, a, f, t, r) else (1, ylt n c, f, t, r))
  else if p = 1 then (if c = 62 then (2, a, f, t, r) else (-1, a, f, t, r))
  else if p = 2 then (if ylt n c = -1 ∨ ylt n c = a then (-1, a, f, t, r) else (3, a, ylt n c, t, r))
  else if p = 3 then (if c = 58 then (4, a, f, t, r) else (-1, a, f, t, r))
  else if p = 4 then stk (ylt n c) a f t r
  else if p = 5 then (if c = 47 then (6, a, f, t, r) else stk (ylt n c) a f t r)
  else if p = 6 then (if 49 ≤ c ∧ c ≤ 57 then (7, a, f, t, c - 48) else (-1, a, f, t, r))
  else (-1, a, f, t, r)
def run (n : Int) (cd : Int → Int) : Nat → Int × Int × Int × Int × Int
  | 0 => (0, 0, 0, 0, 5)
  | k + 1 => stp n (cd k) (run n cd k).1 (run n cd k).2.1 (run n cd k).2.2.1 (run n cd k).2.2.2.1 (run n cd k).2.2.2.2
theorem stp0 (n c a f t r : Int) : stp n c 0 a f t r = (if ylt n c = -1 then (-1, a, f, t, r) else (1, ylt n c, f, t, r)) := by unfold stp; simp only [reduceIte, Int.reduceEq]
theorem stp1 (n c a f t r : Int) : stp n c 1 a f t r = (if c = 62 then (2, a, f, t, r) else (-1, a, f, t, r)) := by unfold stp; simp only [reduceIte, Int.reduceEq]
theorem stp2 (n c a f t r : Int) : stp n c 2 a f t r = (if ylt n c = -1 ∨ ylt n c = a then (-1, a, f, t, r) else (3, a, ylt n c, t, r)) := by unfold stp; simp only [reduceIte, Int.reduceEq]
theorem stp3 (n c a f t r : Int) : stp n c 3 a f t r = (if c = 58 then (4, a, f, t, r) else (-1, a, f, t, r)) := by unfold stp; simp only [reduceIte, Int.reduceEq]
theorem stp4 (n c a f t r : Int) : stp n c 4 a f t r = stk (ylt n c) a f t r := by unfold stp; simp only [reduceIte, Int.reduceEq]
theorem stp5 (n c a f t r : Int) : stp n c 5 a f t r = (if c = 47 then (6, a, f, t, r) else stk (ylt n c) a f t r) := by unfold stp; simp only [reduceIte, Int.reduceEq]
theorem stp6 (n c a f t r : Int) : stp n c 6 a f t r = (if 49 ≤ c ∧ c ≤ 57 then (7, a, f, t, c - 48) else (-1, a, f, t, r)) := by unfold stp; simp only [reduceIte, Int.reduceEq]
theorem stp7 (n c a f t r : Int) {p : Int} (h : p < 0 ∨ 6 < p) : stp n c p a f t r = (-1, a, f, t, r) := by
  unfold stp
  rw [if_neg (by omega), if_neg (by omega), if_neg (by omega), if_neg (by omega), if_neg (by omega), if_neg (by omega), if_neg (by omega)]
theorem or32_lt {t y : Int} (ht : 0 ≤ t ∧ t < 256) (hy : 0 ≤ y ∧ y < 8) : 0 ≤ or32 t (shl32 1 y) ∧ or32 t (shl32 1 y) < 256 := by
  have hc : ∀ (a : Fin 256) (b : Fin 8), 0 ≤ or32 (a.val : Int) (shl32 1 (b.val : Int)) ∧ or32 (a.val : Int) (shl32 1 (b.val : Int)) < 256 := by decide +kernel
  have := hc ⟨t.toNat, by omega⟩ ⟨y.toNat, by omega⟩
  rw [show ((⟨t.toNat, by omega⟩ : Fin 256).val : Int) = t from Int.toNat_of_nonneg ht.1, show ((⟨y.toNat, by omega⟩ : Fin 8).val : Int) = y from Int.toNat_of_nonneg hy.1] at this
  exact this
/-- what the state of a reading keeps -/
def StOk (n : Int) (s : Int × Int × Int × Int × Int) : Prop := -1 ≤ s.1 ∧ s.1 ≤ 7 ∧ (1 ≤ s.1 → 0 ≤ s.2.1 ∧ s.2.1 < n) ∧ (3 ≤ s.1 → 0 ≤ s.2.2.1 ∧ s.2.2.1 < n ∧ s.2.1 ≠ s.2.2.1) ∧ 0 ≤ s.2.2.2.1 ∧ s.2.2.2.1 < 256 ∧ 1 ≤ s.2.2.2.2 ∧ s.2.2.2.2 ≤ 9
theorem ylt_r {n c : Int} (h : ¬ ylt n c = -1) : 0 ≤ ylt n c ∧ ylt n c < n := by
  unfold ylt at h ⊢
  split at h
  · rw [if_pos (by assumption)]; omega
  · exact absurd rfl h
theorem stk_ok {n y a f t r : Int} (hn : n ≤ 8) (hy : ¬ y = -1 → 0 ≤ y ∧ y < n) (h : 0 ≤ a ∧ a < n ∧ 0 ≤ f ∧ f < n ∧ a ≠ f ∧ 0 ≤ t ∧ t < 256 ∧ 1 ≤ r ∧ r ≤ 9) : StOk n (stk y a f t r) := by
  unfold stk
  split
  · unfold StOk; dsimp only; omega
  · have h2 := or32_lt (t := t) (y := y) (by omega) (by omega)
    unfold StOk; dsimp only; omega
theorem stp_ok {n c p a f t r : Int} (hn : n ≤ 8) (h : StOk n (p, a, f, t, r)) : StOk n (stp n c p a f t r) := by
  have hy := ylt_r (n := n) (c := c)
  unfold StOk at h
  dsimp only at h
  by_cases h0 : p = 0
  · subst h0; rw [stp0]; split <;> (unfold StOk; dsimp only; omega)
  by_cases h1 : p = 1
  · subst h1; rw [stp1]; split <;> (unfold StOk; dsimp only; omega)
  by_cases h2 : p = 2
  · subst h2; rw [stp2]; split <;> (unfold StOk; dsimp only; omega)
  by_cases h3 : p = 3
  · subst h3; rw [stp3]; split <;> (unfold StOk; dsimp only; omega)
  by_cases h4 : p = 4
  · subst h4; rw [stp4]; exact stk_ok hn hy (by omega)
  by_cases h5 : p = 5
  · subst h5; rw [stp5]; split
    · unfold StOk; dsimp only; omega
    · exact stk_ok hn hy (by omega)
  by_cases h6 : p = 6
  · subst h6; rw [stp6]; split <;> (unfold StOk; dsimp only; omega)
  rw [stp7 _ _ _ _ _ _ (by omega)]
  unfold StOk; dsimp only; omega
theorem run_ok {n : Int} (hn : n ≤ 8) (cd : Int → Int) : ∀ k : Nat, StOk n (run n cd k)
  | 0 => by unfold run StOk; dsimp only; omega
  | k + 1 => by unfold run; exact stp_ok hn (run_ok hn cd k)
theorem run_st {n : Int} {cd : Int → Int} {k : Nat} (h : (run n cd k).1 = -1) : ∀ j : Nat, (run n cd (k + j)).1 = -1
  | 0 => h
  | j + 1 => by
    rw [show k + (j + 1) = (k + j) + 1 from rfl]
    unfold run
    rw [stp7 _ _ _ _ _ _ (by rw [run_st h j]; omega)]
/-- the reading ends at k -/
def REnd (n : Int) (cd : Int → Int) (N k : Nat) : Prop := k ≤ N ∧ ¬ (run n cd k).1 = -1 ∧ (k = N ∨ (run n cd (k + 1)).1 = -1)
theorem REnd_u {n : Int} {cd : Int → Int} {N k l : Nat} (h : REnd n cd N k) (g : REnd n cd N l) : k = l := by
  obtain ⟨a, b, c⟩ := h
  obtain ⟨a', b', c'⟩ := g
  rcases Nat.lt_trichotomy k l with z | z | z
  · rcases c with c | c
    · omega
    · have := run_st c (l - (k + 1))
      rw [show k + 1 + (l - (k + 1)) = l by omega] at this
      exact absurd this b'
  · exact z
  · rcases c' with c' | c'
    · omega
    · have := run_st c' (k - (l + 1))
      rw [show l + 1 + (k - (l + 1)) = k by omega] at this
      exact absurd this b
/-- the class's page holds the state s -/
def StC (m : Mem) (s : Int × Int × Int × Int × Int) : Prop := m 4 5 = s.1 ∧ (1 ≤ s.1 → m 4 1 = s.2.1) ∧ (3 ≤ s.1 → m 4 2 = s.2.2.1) ∧ m 4 3 = s.2.2.2.1 ∧ m 4 4 = s.2.2.2.2
/-- the reference's fields hold it -/
def StM (m : Mem) (s : Int × Int × Int × Int × Int) : Prop := (1 ≤ s.1 → m 67 34 = s.2.1) ∧ (3 ≤ s.1 → m 67 35 = s.2.2.1) ∧ m 67 36 = s.2.2.2.1 ∧ m 67 37 = s.2.2.2.2
theorem sp_taken {y a f t r : Int} {m : Mem} {post : Int → Mem → Prop} (e1 : m 4 1 = a) (e2 : m 4 2 = f) (e3 : m 4 3 = t) (e4 : m 4 4 = r) (h1 : ∀ m' : Mem, ¬ (stk y a f t r).1 = -1 → StC (mset m' 4 5 (stk y a f t r).1) (stk y a f t r) → (∀ c i : Int, ¬ (c = 4 ∧ 1 ≤ i) → m' c i = m c i) → post (stk y a f t r).1 m') (h0 : ∀ m' : Mem, (stk y a f t r).1 = -1 → (∀ c i : Int, ¬ (c = 4 ∧ 1 ≤ i) → m' c i = m c i) → post (-1) m') : wp_X6_placeBehindTaken y m post := by
  have no : (y = -1 ∨ y = a ∨ ¬ and32 (shr32 t y) 1 = 0) → post (-1) m := fun q => h0 m (by unfold stk; rw [if_pos q]) (fun _ _ _ => rfl)
  unfold wp_X6_placeBehindTaken
  rw [e1, e3]
  refine ⟨fun q => no (Or.inl q), fun q => ⟨fun q2 => no (Or.inr (Or.inl q2)), fun q2 => ⟨fun q3 => eqm ?_, fun q3 => no (Or.inr (Or.inr q3))⟩⟩⟩
  have e : stk y a f t r = (5, a, f, or32 t (shl32 1 y), r) := by
    unfold stk
    rw [if_neg (fun z => z.elim q (fun z => z.elim q2 (fun z => z q3)))]
  rw [e] at h1
  refine h1 _ (by dsimp only; omega) ?_ (fun c i q => mset_ne (by omega))
  unfold StC
  dsimp only
  simp only [mset_r, mset_s, rset_at, reduceIte, Int.reduceEq, not_false_eq_true]
  exact ⟨trivial, fun _ => e1, fun _ => e2, trivial, e4⟩
theorem sp_behind22 {n c p a f t r : Int} {m : Mem} {post : Int → Mem → Prop} (hc : 1 ≤ c ∧ c ≤ 126) (hS : StC m (p, a, f, t, r)) (h1 : ∀ m' : Mem, ¬ (stp n c p a f t r).1 = -1 → StC (mset m' 4 5 (stp n c p a f t r).1) (stp n c p a f t r) → (∀ c i : Int, ¬ (c = 4 ∧ 1 ≤ i) → m' c i = m c i) → post (stp n c p a f t r).1 m') (h0 : ∀ m' : Mem, (stp n c p a f t r).1 = -1 → (∀ c i : Int, ¬ (c = 4 ∧ 1 ≤ i) → m' c i = m c i) → post (-1) m') : wp_X6_placeBehind_22 c (ylt n c) m post := by
  unfold StC at hS
  dsimp only at hS
  obtain ⟨s1, s2, s3, s4, s5⟩ := hS
  unfold wp_X6_placeBehind_22
  rw [s1]
  refine ⟨fun z => ?_, fun z => ?_, fun z => ?_, fun z => ?_, fun z => ?_, fun z => ?_, fun z => ?_, fun z => ?_⟩
  · subst z
    rw [stp0] at h1 h0
    refine eqm ⟨fun q => ?_, fun q => ?_⟩
    · rw [if_neg q] at h1
      refine h1 _ (by dsimp only; omega) ?_ (fun c i q => mset_ne (by omega))
      unfold StC
      dsimp only
      simp only [mset_r, mset_s, rset_at, reduceIte, Int.reduceEq, not_false_eq_true]
      exact ⟨trivial, fun _ => trivial, fun z => absurd z (by decide), s4, s5⟩
    · rw [if_pos q] at h0
      exact h0 _ rfl (fun c i q => mset_ne (by omega))
  · subst z
    rw [stp1] at h1 h0
    refine ⟨fun q => ?_, fun q => ?_⟩
    · rw [if_neg q] at h0
      exact h0 _ rfl (fun c i q => rfl)
    · rw [if_pos q] at h1
      refine h1 m (by dsimp only; omega) ?_ (fun c i q => rfl)
      unfold StC
      dsimp only
      simp only [mset_r, mset_s, rset_at, reduceIte, Int.reduceEq, not_false_eq_true]
      exact ⟨trivial, fun _ => s2 (by decide), fun z => absurd z (by decide), s4, s5⟩
  · subst z
    rw [stp2] at h1 h0
    refine eqm ?_
    have e : mset m 4 2 (ylt n c) 4 1 = a := by simp only [mset_r, mset_s, rset_at, reduceIte, Int.reduceEq, not_false_eq_true]; exact s2 (by decide)
    rw [e]
    refine ⟨fun q => ?_, fun q => ⟨fun q2 => ?_, fun q2 => ?_⟩⟩
    · rw [if_pos (Or.inl q)] at h0
      exact h0 _ rfl (fun c i q => mset_ne (by omega))
    · rw [if_neg (fun z => z.elim q q2)] at h1
      refine h1 _ (by dsimp only; omega) ?_ (fun c i q => mset_ne (by omega))
      unfold StC
      dsimp only
      simp only [mset_r, mset_s, rset_at, reduceIte, Int.reduceEq, not_false_eq_true]
      exact ⟨trivial, fun _ => s2 (by decide), fun _ => trivial, s4, s5⟩
    · rw [if_pos (Or.inr q2)] at h0
      exact h0 _ rfl (fun c i q => mset_ne (by omega))
  · subst z
    rw [stp3] at h1 h0
    refine ⟨fun q => ?_, fun q => ?_⟩
    · rw [if_neg q] at h0
      exact h0 _ rfl (fun c i q => rfl)
    · rw [if_pos q] at h1
      refine h1 m (by dsimp only; omega) ?_ (fun c i q => rfl)
      unfold StC
      dsimp only
      simp only [mset_r, mset_s, rset_at, reduceIte, Int.reduceEq, not_false_eq_true]
      exact ⟨trivial, fun _ => s2 (by decide), fun _ => s3 (by decide), s4, s5⟩
  · subst z
    rw [stp4] at h1 h0
    exact sp_taken (s2 (by decide)) (s3 (by decide)) s4 s5 h1 h0
  · subst z
    rw [stp5] at h1 h0
    refine ⟨fun q => ?_, fun q => ?_⟩
    · rw [if_neg q] at h1 h0
      exact sp_taken (s2 (by decide)) (s3 (by decide)) s4 s5 h1 h0
    · rw [if_pos q] at h1
      refine h1 m (by dsimp only; omega) ?_ (fun c i q => rfl)
      unfold StC
      dsimp only
      simp only [mset_r, mset_s, rset_at, reduceIte, Int.reduceEq, not_false_eq_true]
      exact ⟨trivial, fun _ => s2 (by decide), fun _ => s3 (by decide), s4, s5⟩
  · subst z
    rw [stp6] at h1 h0
    refine eqm ?_
    have e : mset m 4 4 (w32 (c - 48)) 4 4 = c - 48 := by simp only [mset_r, mset_s, rset_at, reduceIte, Int.reduceEq, not_false_eq_true]; exact w32_i (by omega)
    rw [e]
    refine ⟨fun q => ?_, fun q => ⟨fun q2 => ?_, fun q2 => ?_⟩⟩
    · rw [if_neg (by omega)] at h0
      exact h0 _ rfl (fun c i q => mset_ne (by omega))
    · rw [if_pos (by omega)] at h1
      refine h1 _ (by dsimp only; omega) ?_ (fun c i q => mset_ne (by omega))
      unfold StC
      dsimp only
      simp only [mset_r, mset_s, rset_at, reduceIte, Int.reduceEq, not_false_eq_true]
      exact ⟨trivial, fun _ => s2 (by decide), fun _ => s3 (by decide), s4, w32_i (by omega)⟩
    · rw [if_neg (by omega)] at h0
      exact h0 _ rfl (fun c i q => mset_ne (by omega))
  · rw [stp7 _ _ _ _ _ _ z] at h0
    exact h0 _ rfl (fun c i q => rfl)
theorem sp_behind {n c p a f t r : Int} {m : Mem} {post : Int → Mem → Prop} (hn : 2 ≤ n ∧ n ≤ 8) (hc : 1 ≤ c ∧ c ≤ 126) (hS : StC m (p, a, f, t, r)) (h1 : ∀ m' : Mem, ¬ (stp n c p a f t r).1 = -1 → StC (mset m' 4 5 (stp n c p a f t r).1) (stp n c p a f t r) → (∀ c i : Int, ¬ (c = 4 ∧ 1 ≤ i) → m' c i = m c i) → post (stp n c p a f t r).1 m') (h0 : ∀ m' : Mem, (stp n c p a f t r).1 = -1 → (∀ c i : Int, ¬ (c = 4 ∧ 1 ≤ i) → m' c i = m c i) → post (-1) m') : wp_X6_placeBehind c n m post := by
  have key := sp_behind22 hc hS h1 h0
  unfold wp_X6_placeBehind wp_X6_placeBehind_21
  rw [w32_i (x := 65 + n) (by omega)]
  refine ⟨fun q => ?_, fun q => ⟨fun q2 => ?_, fun q2 => ?_⟩⟩
  · rw [show ylt n c = -1 by unfold ylt; rw [if_neg (by omega)]] at key; exact key
  · rw [show ylt n c = -1 by unfold ylt; rw [if_neg (by omega)]] at key; exact key
  · rw [w32_i (x := c - 65) (by omega)]
    rw [show ylt n c = c - 65 by unfold ylt; rw [if_pos (by omega)]] at key; exact key
theorem sp_readFor {n : Int} {m : Mem} {post : Int → Mem → Prop} (hn : 2 ≤ n ∧ n ≤ 8) (hm : 0 ≤ m 4 0 ∧ m 4 0 ≤ 40) (hcd : ∀ i : Int, 0 ≤ i → i < m 4 0 → 1 ≤ m 5 i ∧ m 5 i ≤ 126) (h : ∀ (k : Nat) (m' : Mem), REnd n (m 5) (m 4 0).toNat k → (k = (m 4 0).toNat → StC m' (run n (m 5) k)) → (∀ c i : Int, ¬ (c = 4 ∧ 1 ≤ i) → m' c i = m c i) → post k m') : wp_X6_readFor n m post := by
  have key : ∀ (k i : Nat) (m1 : Mem), i + k = (m 4 0).toNat → ¬ (run n (m 5) i).1 = -1 → StC m1 (run n (m 5) i) → (∀ c i : Int, ¬ (c = 4 ∧ 1 ≤ i) → m1 c i = m c i) → wp_X6_readFor_17 post (k + 1) n i m1 := by
    intro k
    induction k with
    | zero =>
      intro i m1 hk q1 q2 q3
      unfold wp_X6_readFor_17
      have e := q3 4 0 (by omega)
      refine bt (by omega) ?_
      rw [e, show m 4 0 = (i : Int) by omega]
      exact h i m1 ⟨by omega, q1, Or.inl (by omega)⟩ (fun _ => q2) q3
    | succ k ih =>
      intro i m1 hk q1 q2 q3
      unfold wp_X6_readFor_17
      have e := q3 4 0 (by omega)
      have e5 : m1 5 i = m 5 i := q3 5 i (by omega)
      refine bf (by omega) ⟨by omega, ?_⟩
      rw [e5]
      refine sp_behind hn (hcd i (by omega) (by omega)) (p := (run n (m 5) i).1) (a := (run n (m 5) i).2.1) (f := (run n (m 5) i).2.2.1) (t := (run n (m 5) i).2.2.2.1) (r := (run n (m 5) i).2.2.2.2) q2 (fun m2 a1 a2 a3 => nt a1 (eqm ?_)) (fun m2 a1 a3 => nf rfl ?_)
      · rw [show w32 ((i : Int) + 1) = ((i + 1 : Nat) : Int) by unfold w32; omega]
        exact ih (i + 1) _ (by omega) a1 a2 (fun c j q => by rw [mset_ne (by omega), a3 c j q, q3 c j q])
      · exact h i m2 ⟨by omega, q1, Or.inr a1⟩ (fun z => by omega) (fun c j q => by rw [a3 c j q, q3 c j q])
  unfold wp_X6_readFor
  refine eqm (eqm (eqm ⟨(m 4 0).toNat + 1, ?_⟩))
  refine key (m 4 0).toNat 0 _ (by omega) (by unfold run; dsimp only; omega) ?_ (fun c i q => by rw [mset_ne (by omega), mset_ne (by omega), mset_ne (by omega)])
  unfold StC run
  dsimp only
  simp only [mset_r, mset_s, rset_at, reduceIte, Int.reduceEq, not_false_eq_true]
  exact ⟨trivial, fun z => absurd z (by decide), fun z => absurd z (by decide), trivial, trivial⟩
