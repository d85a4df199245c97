/-! reading the page: the reference's side; good -/
theorem f258 {p v : Int} {m : Mem} {K : Int → Int → Int → Mem → Prop} {post : Mem → Prop} (hv : 0 ≤ v ∧ v < 40) (h : K p v 0 m) : wp_X11_readBlock_258 p v 0 m K post := by
  unfold wp_X11_readBlock_258
  refine z0 (eqm ?_)
  rw [w32_i (by omega), Int.add_zero]
  exact h
theorem t258 {p v : Int} {m : Mem} {K : Int → Int → Int → Mem → Prop} {post : Mem → Prop} (hv : 0 ≤ v ∧ v < 40) (h : K p (v + 1) 1 m) : wp_X11_readBlock_258 p v 1 m K post := by
  unfold wp_X11_readBlock_258
  refine z1 (eqm ?_)
  rw [w32_i (by omega)]
  exact h
theorem f206 {p v c : Int} {m : Mem} {K : Int → Int → Int → Mem → Prop} {post : Mem → Prop} (hv : 0 ≤ v ∧ v < 40) (h5 : ¬ (p = 5 ∧ c = 47)) (h6 : ¬ (p = 6 ∧ 49 ≤ c ∧ c ≤ 57)) (h : K p v 0 m) : wp_X11_readBlock_206 p v 0 c m K post := by
  have k : wp_X11_readBlock_226 p v 0 c m K post := by
    unfold wp_X11_readBlock_226
    exact ⟨fun _ => f258 hv h, fun z => sp_in (fun a b => absurd ⟨z, a, b⟩ h6) (fun _ => z0 (f258 hv h))⟩
  unfold wp_X11_readBlock_206
  exact ⟨fun _ => k, fun z => ⟨fun _ => k, fun z2 => absurd ⟨z, z2⟩ h5⟩⟩
theorem g149 {p v c y : Int} {m : Mem} {K : Int → Int → Int → Mem → Prop} {post : Mem → Prop} (h4 : ¬ p = 4) (h5 : ¬ p = 5) (h : wp_X11_readBlock_206 p v 0 c m K post) : wp_X11_readBlock_149 p v 0 c y m K post := by
  unfold wp_X11_readBlock_149
  exact bf h4 (nt h5 h)
theorem g116 {p v c y : Int} {m : Mem} {K : Int → Int → Int → Mem → Prop} {post : Mem → Prop} (h2 : ¬ p = 2) (h : wp_X11_readBlock_149 p v 0 c y m K post) : wp_X11_readBlock_116 p v 0 c y m K post := by
  unfold wp_X11_readBlock_116
  exact nt h2 h
theorem g96 {p v c y : Int} {m : Mem} {K : Int → Int → Int → Mem → Prop} {post : Mem → Prop} (h3 : ¬ (p = 3 ∧ c = 58)) (h : wp_X11_readBlock_116 p v 0 c y m K post) : wp_X11_readBlock_96 p v 0 c y m K post := by
  unfold wp_X11_readBlock_96
  exact ⟨fun _ => h, fun z => ⟨fun _ => h, fun z2 => absurd ⟨z, z2⟩ h3⟩⟩
theorem g84 {p v c y : Int} {m : Mem} {K : Int → Int → Int → Mem → Prop} {post : Mem → Prop} (h1 : ¬ (p = 1 ∧ c = 62)) (h : wp_X11_readBlock_96 p v 0 c y m K post) : wp_X11_readBlock_84 p v 0 c y m K post := by
  unfold wp_X11_readBlock_84
  exact ⟨fun _ => h, fun z => ⟨fun z2 => absurd ⟨z, z2⟩ h1, fun _ => h⟩⟩
theorem g57 {p v c y : Int} {m : Mem} {K : Int → Int → Int → Mem → Prop} {post : Mem → Prop} (h0 : ¬ p = 0) (h : wp_X11_readBlock_84 p v 0 c y m K post) : wp_X11_readBlock_57 p v c y m K post := by
  unfold wp_X11_readBlock_57
  exact nt h0 h
theorem sp_159 {p v c y a f t r : Int} {m : Mem} {K : Int → Int → Int → Mem → Prop} {post : Mem → Prop} (hv : 0 ≤ v ∧ v < 40) (hp : p = 4 ∨ p = 5) (hc : ¬ (p = 5 ∧ c = 47)) (hS : StM m (p, a, f, t, r)) (h1 : ∀ m' : Mem, ¬ (stk y a f t r).1 = -1 → StM m' (stk y a f t r) → (∀ c i : Int, ¬ (c = 67 ∧ 34 ≤ i) → m' c i = m c i) → K (stk y a f t r).1 (v + 1) 1 m') (h0 : (stk y a f t r).1 = -1 → K p v 0 m) : wp_X11_readBlock_159 p v 0 c y m K post := by
  unfold StM at hS
  dsimp only at hS
  obtain ⟨s2, s3, s4, s5⟩ := hS
  have s2 := s2 (by omega)
  have s3 := s3 (by omega)
  have no : (y = -1 ∨ y = a ∨ ¬ and32 (shr32 t y) 1 = 0) → wp_X11_readBlock_206 p v 0 c m K post := fun q => f206 hv hc (by omega) (h0 (by unfold stk; rw [if_pos q]))
  unfold wp_X11_readBlock_159
  rw [s2, s4]
  refine ⟨fun q => no (Or.inl q), fun q => ⟨fun q2 => no (Or.inr (Or.inl q2)), fun q2 => ⟨fun q3 => no (Or.inr (Or.inr q3)), fun q3 => eqm (t258 hv ?_)⟩⟩⟩
  have e : stk y a f t r = (5, a, f, or32 t (shl32 1 y), r) := by
    unfold stk
    rw [if_neg (fun z => z.elim q (fun z => z.elim q2 (fun z => z q3)))]
  rw [e] at h1
  refine h1 _ (by dsimp only; omega) ?_ (fun c i q => mset_ne (by omega))
  unfold StM
  dsimp only
  simp only [mset_r, mset_s, rset_at, reduceIte, Int.reduceEq, not_false_eq_true]
  exact ⟨fun _ => s2, fun _ => s3, trivial, s5⟩
theorem sp_57 {n v c p a f t r : Int} {m : Mem} {K : Int → Int → Int → Mem → Prop} {post : Mem → Prop} (hv : 0 ≤ v ∧ v < 40) (hc : 1 ≤ c ∧ c ≤ 126) (hS : StM m (p, a, f, t, r)) (h1 : ∀ m' : Mem, ¬ (stp n c p a f t r).1 = -1 → StM m' (stp n c p a f t r) → (∀ c i : Int, ¬ (c = 67 ∧ 34 ≤ i) → m' c i = m c i) → K (stp n c p a f t r).1 (v + 1) 1 m') (h0 : (stp n c p a f t r).1 = -1 → K p v 0 m) : wp_X11_readBlock_57 p v c (ylt n c) m K post := by
  have hS' := hS
  unfold StM at hS
  dsimp only at hS
  obtain ⟨s2, s3, s4, s5⟩ := hS
  by_cases p0 : p = 0
  · subst p0
    rw [stp0] at h1 h0
    unfold wp_X11_readBlock_57
    refine nf rfl ⟨fun q => ?_, fun q => eqm (t258 hv ?_)⟩
    · rw [if_pos q] at h0
      exact g84 (by omega) (g96 (by omega) (g116 (by omega) (g149 (by omega) (by omega) (f206 hv (by omega) (by omega) (h0 rfl)))))
    · rw [if_neg q] at h1
      refine h1 _ (by dsimp only; omega) ?_ (fun c i q => mset_ne (by omega))
      unfold StM
      dsimp only
      simp only [mset_r, mset_s, rset_at, reduceIte, Int.reduceEq, not_false_eq_true]
      exact ⟨fun _ => trivial, fun z => absurd z (by decide), s4, s5⟩
  refine g57 p0 ?_
  by_cases p1 : p = 1
  · subst p1
    rw [stp1] at h1 h0
    by_cases q : c = 62
    · rw [if_pos q] at h1
      unfold wp_X11_readBlock_84 wp_X11_readBlock_108
      refine nf rfl (bt q (t258 hv ?_))
      refine h1 _ (by dsimp only; omega) ?_ (fun c i q => rfl)
      unfold StM
      dsimp only
      exact ⟨fun _ => s2 (by decide), fun z => absurd z (by decide), s4, s5⟩
    · rw [if_neg q] at h0
      exact g84 (by omega) (g96 (by omega) (g116 (by omega) (g149 (by omega) (by omega) (f206 hv (by omega) (by omega) (h0 rfl)))))
  refine g84 (by omega) ?_
  by_cases p3 : p = 3
  · subst p3
    rw [stp3] at h1 h0
    by_cases q : c = 58
    · rw [if_pos q] at h1
      unfold wp_X11_readBlock_96 wp_X11_readBlock_108
      refine nf rfl (nf q (t258 hv ?_))
      refine h1 _ (by dsimp only; omega) ?_ (fun c i q => rfl)
      unfold StM
      dsimp only
      exact ⟨fun _ => s2 (by decide), fun _ => s3 (by decide), s4, s5⟩
    · rw [if_neg q] at h0
      exact g96 (by omega) (g116 (by omega) (g149 (by omega) (by omega) (f206 hv (by omega) (by omega) (h0 rfl))))
  refine g96 (by omega) ?_
  by_cases p2 : p = 2
  · subst p2
    rw [stp2] at h1 h0
    unfold wp_X11_readBlock_116
    rw [s2 (by decide)]
    have no : (ylt n c = -1 ∨ ylt n c = a) → wp_X11_readBlock_149 2 v 0 c (ylt n c) m K post := fun q => by
      rw [if_pos q] at h0
      exact g149 (by omega) (by omega) (f206 hv (by omega) (by omega) (h0 rfl))
    refine nf rfl ⟨fun q => no (Or.inl q), fun q => ⟨fun q2 => no (Or.inr q2), fun q2 => eqm (t258 hv ?_)⟩⟩
    rw [if_neg (fun z => z.elim q q2)] at h1
    refine h1 _ (by dsimp only; omega) ?_ (fun c i q => mset_ne (by omega))
    unfold StM
    dsimp only
    simp only [mset_r, mset_s, rset_at, reduceIte, Int.reduceEq, not_false_eq_true]
    exact ⟨fun _ => s2 (by decide), fun _ => trivial, s4, s5⟩
  refine g116 (by omega) ?_
  by_cases p4 : p = 4
  · subst p4
    rw [stp4] at h1 h0
    unfold wp_X11_readBlock_149
    exact bt rfl (sp_159 hv (Or.inl rfl) (by omega) hS' h1 h0)
  by_cases p5 : p = 5
  · subst p5
    rw [stp5] at h1 h0
    unfold wp_X11_readBlock_149
    refine bf (by decide) (nf rfl ?_)
    by_cases q : c = 47
    · rw [if_pos q] at h1
      have ey : ylt n c = -1 := by unfold ylt; rw [if_neg (by omega)]
      unfold wp_X11_readBlock_159
      refine bt ey ?_
      unfold wp_X11_readBlock_206
      refine nf rfl (nf q (t258 hv ?_))
      refine h1 _ (by dsimp only; omega) ?_ (fun c i q => rfl)
      unfold StM
      dsimp only
      exact ⟨fun _ => s2 (by decide), fun _ => s3 (by decide), s4, s5⟩
    · rw [if_neg q] at h1 h0
      exact sp_159 hv (Or.inr rfl) (by omega) hS' h1 h0
  refine g149 p4 p5 ?_
  by_cases p6 : p = 6
  · subst p6
    rw [stp6] at h1 h0
    by_cases q : 49 ≤ c ∧ c ≤ 57
    · rw [if_pos q] at h1
      unfold wp_X11_readBlock_206 wp_X11_readBlock_226
      refine nt (by decide) (nf rfl (sp_in (fun _ _ => z1 (eqm (t258 hv ?_))) (fun z => absurd q z)))
      refine h1 _ (by dsimp only; omega) ?_ (fun c i q => mset_ne (by omega))
      unfold StM
      dsimp only
      simp only [mset_r, mset_s, rset_at, reduceIte, Int.reduceEq, not_false_eq_true]
      exact ⟨fun _ => s2 (by decide), fun _ => s3 (by decide), s4, w32_i (by omega)⟩
    · rw [if_neg q] at h0
      exact f206 hv (by omega) (by omega) (h0 rfl)
  have e : stp n c p a f t r = (-1, a, f, t, r) := by
    unfold stp
    rw [if_neg p0, if_neg p1, if_neg p2, if_neg p3, if_neg p4, if_neg p5, if_neg p6]
  rw [e] at h0
  exact f206 hv (by omega) (by omega) (h0 rfl)
theorem sp_readBlock {n : Int} {cd : Int → Int} {m : Mem} {post : Mem → Prop} (hn : 2 ≤ n ∧ n ≤ 8) (e0 : m 67 0 = n) (hm : 0 ≤ m 67 2 ∧ m 67 2 ≤ 40) (hcd : ∀ i : Int, 0 ≤ i → i < m 67 2 → m 69 i = cd i ∧ 1 ≤ cd i ∧ cd i ≤ 126) (h : ∀ (k : Nat) (m' : Mem), REnd n cd (m 67 2).toNat k → (k = (m 67 2).toNat → StM m' (run n cd k)) → m' 67 32 = k → (k = (m 67 2).toNat ∧ ((run n cd k).1 = 5 ∨ (run n cd k).1 = 7) → m' 67 33 = 1) → (¬ (k = (m 67 2).toNat ∧ ((run n cd k).1 = 5 ∨ (run n cd k).1 = 7)) → m' 67 33 = 0) → (∀ c i : Int, ¬ (c = 67 ∧ 32 ≤ i) → m' c i = m c i) → post m') : wp_X11_readBlock m post := by
  have fin : ∀ (k : Nat) (m1 : Mem), REnd n cd (m 67 2).toNat k → (k = (m 67 2).toNat → StM m1 (run n cd k)) → (∀ c i : Int, ¬ (c = 67 ∧ 32 ≤ i) → m1 c i = m c i) → wp_X11_readBlock_273 (run n cd k).1 k m1 post := by
    intro k m1 a1 a2 a3
    have e := a3 67 2 (by omega)
    have hk := a1.1
    unfold wp_X11_readBlock_273
    refine eqm ?_
    have e1 : mset m1 67 32 k 67 2 = m 67 2 := by simp only [mset_r, mset_s, rset_at, reduceIte, Int.reduceEq, not_false_eq_true]; exact e
    rw [e1]
    have ho : ∀ x : Int, (x = 1 ∧ (k = (m 67 2).toNat ∧ ((run n cd k).1 = 5 ∨ (run n cd k).1 = 7))) ∨ (x = 0 ∧ ¬ (k = (m 67 2).toNat ∧ ((run n cd k).1 = 5 ∨ (run n cd k).1 = 7))) → post (mset (mset m1 67 32 k) 67 33 x) := by
      intro x hx
      refine h k _ a1 (fun z => ?_) (by simp only [mset_r, mset_s, rset_at, reduceIte, Int.reduceEq, not_false_eq_true]) (fun z => ?_) (fun z => ?_) (fun c i q => by rw [mset_ne (by omega), mset_ne (by omega), a3 c i q])
      · have := a2 z
        unfold StM at this ⊢
        simp only [mset_r, mset_s, rset_at, reduceIte, Int.reduceEq, not_false_eq_true]
        exact this
      · simp only [mset_r, mset_s, rset_at, reduceIte, Int.reduceEq, not_false_eq_true]
        exact hx.elim (fun w => w.1) (fun w => absurd z w.2)
      · simp only [mset_r, mset_s, rset_at, reduceIte, Int.reduceEq, not_false_eq_true]
        exact hx.elim (fun w => absurd w.2 z) (fun w => w.1)
    exact ⟨fun q => eqm (ho 0 (Or.inr ⟨rfl, by omega⟩)), fun q => ⟨fun q2 => eqm (ho 1 (Or.inl ⟨rfl, by omega, Or.inl q2⟩)), fun q2 => ⟨fun q3 => eqm (ho 0 (Or.inr ⟨rfl, by omega⟩)), fun q3 => eqm (ho 1 (Or.inl ⟨rfl, by omega, Or.inr q3⟩))⟩⟩⟩
  have key : ∀ (k i : Nat) (m1 : Mem), i + k = (m 67 2).toNat → ¬ (run n cd i).1 = -1 → StM m1 (run n cd i) → (∀ c i : Int, ¬ (c = 67 ∧ 32 ≤ i) → m1 c i = m c i) → wp_X11_readBlock_16 (fun v1_33 v2_33 m_33 => wp_X11_readBlock_273 v1_33 v2_33 m_33 post) post (k + 2) (run n cd i).1 i 1 m1 := by
    intro k
    induction k with
    | zero =>
      intro i m1 hk q1 q2 q3
      unfold wp_X11_readBlock_16
      have e := q3 67 2 (by omega)
      refine bt (by omega) ?_
      exact fin i m1 ⟨by omega, q1, Or.inl (by omega)⟩ (fun _ => q2) q3
    | succ k ih =>
      intro i m1 hk q1 q2 q3
      unfold wp_X11_readBlock_16
      have e := q3 67 2 (by omega)
      have e9 : m1 69 i = m 69 i := q3 69 i (by omega)
      have hd := hcd i (by omega) (by omega)
      refine bf (by omega) (z1 ⟨by omega, eqm ?_⟩)
      have e67 : m1 67 0 = n := by rw [q3 67 0 (by omega)]; exact e0
      rw [e9, hd.1, w32_i (x := cd i - 65) (by omega)]
      have go : wp_X11_readBlock_57 (run n cd i).1 i (cd i) (ylt n (cd i)) m1 (fun v1_31 v2_31 v3_31 m_31 => wp_X11_readBlock_16 (fun v1_33 v2_33 m_33 => wp_X11_readBlock_273 v1_33 v2_33 m_33 post) post (k + 2) v1_31 v2_31 v3_31 m_31) post := by
        refine sp_57 (by omega) hd.2 (a := (run n cd i).2.1) (f := (run n cd i).2.2.1) (t := (run n cd i).2.2.2.1) (r := (run n cd i).2.2.2.2) q2 (fun m2 a1 a2 a3 => ?_) (fun a1 => ?_)
        · exact ih (i + 1) m2 (by omega) a1 a2 (fun c j q => by rw [a3 c j (by omega), q3 c j q])
        · unfold wp_X11_readBlock_16
          refine bf (by omega) (z0 ?_)
          exact fin i m1 ⟨by omega, q1, Or.inr a1⟩ (fun z => by omega) q3
      refine sp_isYard (by omega) (fun a b => z1 ?_) (fun q => z0 ?_)
      · rw [show ylt n (cd i) = cd i - 65 by unfold ylt; rw [if_pos (by omega)]] at go
        exact go
      · rw [show ylt n (cd i) = -1 by unfold ylt; rw [if_neg (by omega)]] at go
        exact go
  unfold wp_X11_readBlock
  refine eqm (eqm ⟨(m 67 2).toNat + 2, ?_⟩)
  refine key (m 67 2).toNat 0 _ (by omega) (by unfold run; dsimp only; omega) ?_ (fun c i q => by rw [mset_ne (by omega), mset_ne (by omega)])
  unfold StM run
  dsimp only
  simp only [mset_r, mset_s, rset_at, reduceIte, Int.reduceEq, not_false_eq_true]
  exact ⟨fun z => absurd z (by decide), fun z => absurd z (by decide), trivial, trivial⟩
theorem op_good {m : Mem} (hR : Rel m) : wp_X10_good m (fun r m1 => wp_X11_good m1 (fun r2 m2 => r = r2 ∧ Rel m2)) := by
  obtain ⟨p1, p2, p3, p4⟩ := hR.2.1
  obtain ⟨n1, n2, n3⟩ := hR.n
  unfold wp_X10_good
  refine sp_readFor ⟨n2, n3⟩ ⟨p2, p3⟩ (fun i i1 i2 => (p4 i i1 i2).2) (fun k m1 a1 a2 a3 => ?_)
  have f67 : m1 67 = m 67 := funext fun i => a3 67 i (by omega)
  have f69 : m1 69 = m 69 := funext fun i => a3 69 i (by omega)
  unfold wp_X11_good
  refine sp_readBlock (n := m 1 0) (cd := m 5) ⟨n2, n3⟩ (by rw [f67]; exact n1) (by rw [f67]; omega) (by rw [f67, f69, p1]; exact p4) (fun l m2 b1 b2 b3 b4 b5 b6 => ?_)
  rw [f67, p1] at b1
  have e := REnd_u a1 b1
  subst e
  refine ⟨b3.symm, Rel.frame (fun c i q => ?_) hR⟩
  unfold Scr at q
  rw [b6 c i (by omega), a3 c i (by omega)]
