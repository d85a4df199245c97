/-! close, wagon -/
theorem rset_ne {f : Int → Int} {i v j : Int} (h : j ≠ i) : rset f i v j = f j := if_neg h
theorem rset_eq {f : Int → Int} {i v j : Int} (h : j = i) : rset f i v j = v := if_pos h
theorem op_close {m : Mem} (hR : Rel m) (y f t : Int) : wp_X10_close y f t m (fun r m1 => wp_X11_close y f t m1 (fun r2 m2 => r = r2 ∧ Rel m2)) := by
  obtain ⟨n1', n2, n3⟩ := hR.n
  have keyU : ¬ (0 ≤ y ∧ y < m 1 0) → wp_X11_close y f t m (fun r2 m2 => -101 = r2 ∧ Rel m2) := by
    intro q
    unfold wp_X11_close
    exact sp_isYard (by omega) (fun a b => absurd ⟨a, by omega⟩ q) (fun _ => n0 ⟨rfl, hR⟩)
  have keyO : 0 ≤ y → y < m 1 0 → ¬ (f = -1 ∧ t = -1) → ¬ (0 ≤ f ∧ f ≤ t ∧ t ≤ 99) → wp_X11_close y f t m (fun r2 m2 => -102 = r2 ∧ Rel m2) := by
    intro a b q q2
    have k26 : wp_X11_close_26 y f t 0 m (fun r2 m2 => -102 = r2 ∧ Rel m2) := by
      unfold wp_X11_close_26
      exact n0 (sp_in (fun c d => z1 (sp_in (fun e g => by omega) (fun _ => n0 ⟨rfl, hR⟩))) (fun _ => z0 ⟨rfl, hR⟩))
    unfold wp_X11_close wp_X11_close_25
    refine sp_isYard (by omega) (fun _ _ => n1 ⟨fun _ => k26, fun e => ⟨fun _ => k26, fun e2 => absurd ⟨e, e2⟩ q⟩⟩) (fun q => absurd ⟨a, by omega⟩ q)
  have keyI : 0 ≤ y → y < m 1 0 → ((f = -1 ∧ t = -1) ∨ (0 ≤ f ∧ f ≤ t ∧ t ≤ 99)) → wp_X11_close y f t (mset (mset m 29 y f) 30 y t) (fun r2 m2 => 1 = r2 ∧ Rel m2) := by
    intro a b q
    have hy : mset (mset m 29 y f) 30 y t 67 0 = m 67 0 := by simp only [mset_r, mset_s, rset_at, reduceIte, Int.reduceEq, not_false_eq_true]
    have k56 : wp_X11_close_56 y f t (mset (mset m 29 y f) 30 y t) (fun r2 m2 => 1 = r2 ∧ Rel m2) := by
      unfold wp_X11_close_56
      refine ⟨by omega, eqm ⟨by omega, eqm ⟨rfl, ?_⟩⟩⟩
      obtain ⟨h1, h2, h3, h4, h5, h6, h7, h8, h9, h10, h11⟩ := id hR
      obtain ⟨c1, c2, c3, c4, c5, c6, c7, c8, c9, c10, c11⟩ := h5
      unfold Rel
      simp only [mset_r, mset_s, rset_at, reduceIte, Int.reduceEq, not_false_eq_true]
      refine ⟨h1, h2, h3, h4, ⟨c1, c2, c3, c4, c5, c6, fun z z1 z2 => ?_, c8, c9, c10, c11⟩, h6, h7, h8, h9, h10, h11⟩
      simp only [rset_at]
      by_cases hz : z = y
      · rw [if_pos hz, if_pos hz, if_pos hz, if_pos hz]; exact ⟨rfl, rfl, q⟩
      · rw [if_neg hz, if_neg hz, if_neg hz, if_neg hz]; exact c7 z z1 z2
    unfold wp_X11_close wp_X11_close_25 wp_X11_close_26
    refine sp_isYard (by rw [hy]; omega) (fun _ _ => n1 ?_) (fun q => absurd (by rw [hy]; omega) q)
    by_cases e : f = -1
    · refine nf e ?_
      by_cases e2 : t = -1
      · exact nf e2 (n1 k56)
      · refine nt e2 (n0 (sp_in (fun c d => z1 (sp_in (fun e g => n1 k56) (fun q => by omega))) (fun q => by omega)))
    · refine nt e (n0 (sp_in (fun c d => z1 (sp_in (fun e g => n1 k56) (fun q => by omega))) (fun q => by omega)))
  unfold wp_X10_close wp_X10_close_28 wp_X10_close_29 wp_X10_close_54
  refine sp_X3_has (fun a b => n1 ⟨fun e => n0 ⟨fun c => keyO a b (by omega) (by omega), fun c => ⟨fun d => keyO a b (by omega) (by omega), fun d => ⟨fun g => ⟨by omega, eqm ⟨by omega, eqm (keyI a b (Or.inr (by omega)))⟩⟩, fun g => keyO a b (by omega) (by omega)⟩⟩⟩, fun e => ⟨fun e2 => n0 ⟨fun c => keyO a b (by omega) (by omega), fun c => ⟨fun d => keyO a b (by omega) (by omega), fun d => ⟨fun g => ⟨by omega, eqm ⟨by omega, eqm (keyI a b (Or.inr (by omega)))⟩⟩, fun g => keyO a b (by omega) (by omega)⟩⟩⟩, fun e2 => n1 ⟨by omega, eqm ⟨by omega, eqm (keyI a b (Or.inl ⟨e, e2⟩))⟩⟩⟩⟩) (fun q => n0 (keyU q))
theorem sp_X10_wagon {a g : Int} {m : Mem} {post : Int → Mem → Prop} (hw : 0 ≤ m 28 4 ∧ m 28 4 ≤ 30) (h1 : 0 ≤ a → a < m 1 0 → 0 ≤ g → g < m 1 0 → a ≠ g → m 28 4 < 30 → post (m 28 4) (mset (mset (mset (mset (mset (mset (mset m 31 (m 28 4) a) 32 (m 28 4) g) 33 (m 28 4) (-1)) 34 (m 28 4) (m 28 0)) 35 (m 28 4) 0) 36 (m 28 4) 0) 28 4 (m 28 4 + 1))) (h2 : 0 ≤ a → a < m 1 0 → 0 ≤ g → g < m 1 0 → a ≠ g → m 28 4 = 30 → post (-104) m) (h0 : ¬ (0 ≤ a ∧ a < m 1 0 ∧ 0 ≤ g ∧ g < m 1 0 ∧ a ≠ g) → post (-101) m) : wp_X10_wagon a g m post := by
  unfold wp_X10_wagon wp_X9_add
  refine sp_X3_hasPair (fun b c d e f => n1 ⟨fun k => eqm ⟨by omega, eqm ⟨by omega, eqm ⟨by omega, eqm ⟨by omega, eqm ⟨by omega, eqm ⟨by omega, eqm (eqm ?_)⟩⟩⟩⟩⟩⟩, fun k => h2 b c d e f (by omega)⟩) (fun q => n0 (h0 q))
  have := h1 b c d e f k
  simp only [mset_r, mset_s, rset_at, reduceIte, Int.reduceEq, not_false_eq_true]
  rw [w32_i (by omega)]
  exact this
theorem sp_X11_wagon {a g : Int} {m : Mem} {post : Int → Mem → Prop} (hn : 0 ≤ m 67 0 ∧ m 67 0 ≤ 8) (hw : 0 ≤ m 67 13 ∧ m 67 13 ≤ 30) (h1 : 0 ≤ a → a < m 67 0 → 0 ≤ g → g < m 67 0 → a ≠ g → m 67 13 < 30 → post (m 67 13) (mset (mset (mset (mset (mset (mset (mset m 77 (6 * m 67 13) a) 77 (6 * m 67 13 + 1) (-1)) 77 (6 * m 67 13 + 2) (m 67 18)) 77 (6 * m 67 13 + 3) 0) 77 (6 * m 67 13 + 4) 0) 77 (6 * m 67 13 + 5) g) 67 13 (m 67 13 + 1))) (h2 : 0 ≤ a → a < m 67 0 → 0 ≤ g → g < m 67 0 → a ≠ g → m 67 13 = 30 → post (-104) m) (h0 : ¬ (0 ≤ a ∧ a < m 67 0 ∧ 0 ≤ g ∧ g < m 67 0 ∧ a ≠ g) → post (-101) m) : wp_X11_wagon a g m post := by
  unfold wp_X11_wagon
  refine sp_isYard (by omega) (fun b c => z1 (sp_isYard (by omega) (fun d e => z1 ⟨fun f => ⟨fun k => ?_, fun k => h2 b c d e f k⟩, fun f => h0 (by omega)⟩) (fun q => z0 (h0 (by omega))))) (fun q => z0 (h0 (by omega)))
  have h1 := h1 b c d e f (by omega)
  rw [ix6 hw.1 (by omega)]
  refine ⟨by omega, eqm ?_⟩
  simp only [mset_r, mset_s, rset_at, reduceIte, Int.reduceEq, not_false_eq_true]
  rw [ix6' hw.1 (by omega) (by decide) (by decide)]
  refine ⟨by omega, eqm ?_⟩
  simp only [mset_r, mset_s, rset_at, reduceIte, Int.reduceEq, not_false_eq_true]
  rw [ix6' hw.1 (by omega) (by decide) (by decide)]
  refine ⟨by omega, eqm ?_⟩
  simp only [mset_r, mset_s, rset_at, reduceIte, Int.reduceEq, not_false_eq_true]
  rw [ix6' hw.1 (by omega) (by decide) (by decide)]
  refine ⟨by omega, eqm ?_⟩
  simp only [mset_r, mset_s, rset_at, reduceIte, Int.reduceEq, not_false_eq_true]
  rw [ix6' hw.1 (by omega) (by decide) (by decide)]
  refine ⟨by omega, eqm ?_⟩
  simp only [mset_r, mset_s, rset_at, reduceIte, Int.reduceEq, not_false_eq_true]
  rw [ix6' hw.1 (by omega) (by decide) (by decide)]
  refine ⟨by omega, eqm (eqm ?_)⟩
  simp only [mset_r, mset_s, rset_at, reduceIte, Int.reduceEq, not_false_eq_true]
  rw [w32_i (x := m 67 13 + 1) (by omega), w32_i (x := m 67 13 + 1 - 1) (by omega), show m 67 13 + 1 - 1 = m 67 13 by omega]
  exact h1
theorem op_wagon {m : Mem} (hR : Rel m) (a g : Int) : wp_X10_wagon a g m (fun r m1 => wp_X11_wagon a g m1 (fun r2 m2 => r = r2 ∧ Rel m2)) := by
  obtain ⟨n1', n2, n3⟩ := hR.n
  obtain ⟨h1, h2, h3, h4, h5, h6, h7, h8, h9, h10, h11⟩ := id hR
  obtain ⟨c1, c2, c3, c4, c5, c6, c7, c8, c9, c10, c11⟩ := h5
  refine sp_X10_wagon ⟨c9, c10⟩ (fun b c d e f k => ?_) (fun b c d e f k => sp_X11_wagon (by omega) (by omega) (fun _ _ _ _ _ x => by omega) (fun _ _ _ _ _ _ => ⟨rfl, hR⟩) (fun q => absurd (by omega) q)) (fun q => sp_X11_wagon (by omega) (by omega) (fun _ _ _ _ _ => absurd (by omega) q) (fun _ _ _ _ _ => absurd (by omega) q) (fun _ => ⟨rfl, hR⟩))
  refine sp_X11_wagon (by simp only [mset_r, mset_s, rset_at, reduceIte, Int.reduceEq, not_false_eq_true]; omega) (by simp only [mset_r, mset_s, rset_at, reduceIte, Int.reduceEq, not_false_eq_true]; omega) (fun _ _ _ _ _ _ => ?_) (fun _ _ _ _ _ x => absurd x (by simp only [mset_r, mset_s, rset_at, reduceIte, Int.reduceEq, not_false_eq_true]; omega)) (fun q => absurd (by simp only [mset_r, mset_s, rset_at, reduceIte, Int.reduceEq, not_false_eq_true]; omega) q)
  unfold Rel
  simp only [mset_r, mset_s, rset_at, reduceIte, Int.reduceEq, not_false_eq_true]
  refine ⟨c8.symm, h1, h2, h3, h4, ⟨c1, c2, c3, c4, c5, c6, c7, by omega, by omega, by omega, fun i i1 i2 => ?_⟩, h6, h7, h8, h9, h10, h11⟩
  have h5' := c11 i
  rw [c8]
  unfold RWag at h5' ⊢
  by_cases hi : i = m 28 4
  · subst hi
    simp (disch := omega) only [rset_eq, rset_ne]
    exact ⟨⟨trivial, trivial, c1, trivial, trivial, trivial⟩, d, e, c2, by omega, Or.inl ⟨b, c, trivial, trivial⟩⟩
  · have h5' := h5' i1 (by omega)
    simp (disch := omega) only [rset_eq, rset_ne]
    exact h5'
