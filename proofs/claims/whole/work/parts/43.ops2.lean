/-! calls that set one thing, and tell one -/
theorem sp_X10_tracks {y v : Int} {m : Mem} {post : Int → Mem → Prop} (hn : m 1 0 ≤ 8) (h1 : 0 ≤ y → y < m 1 0 → 0 ≤ v → v ≤ 7 → post (m 45 y) (mset (mset m 43 5 0) 45 y v)) (h2 : 0 ≤ y → y < m 1 0 → ¬ (0 ≤ v ∧ v ≤ 7) → post (-102) m) (h0 : ¬ (0 ≤ y ∧ y < m 1 0) → post (-101) m) : wp_X10_tracks y v m post := by
  unfold wp_X10_tracks wp_X5_forget
  refine sp_X3_has (fun a b => n1 ⟨fun c => h2 a b (by omega), fun c => ⟨fun d => eqm ⟨by omega, eqm ⟨by omega, eqm ?_⟩⟩, fun d => h2 a b (by omega)⟩⟩) (fun q => n0 (h0 q))
  have := h1 a b (by omega) d
  simp only [mset_r, mset_s, rset_at, reduceIte, Int.reduceEq, not_false_eq_true]
  exact this
theorem sp_X11_tracks {y v : Int} {m : Mem} {post : Int → Mem → Prop} (hn : 0 ≤ m 67 0 ∧ m 67 0 ≤ 8) (h1 : 0 ≤ y → y < m 67 0 → 0 ≤ v → v ≤ 7 → post (m 82 y) (mset m 82 y v)) (h2 : 0 ≤ y → y < m 67 0 → ¬ (0 ≤ v ∧ v ≤ 7) → post (-102) m) (h0 : ¬ (0 ≤ y ∧ y < m 67 0) → post (-101) m) : wp_X11_tracks y v m post := by
  unfold wp_X11_tracks
  exact sp_isYard (by omega) (fun a b => n1 (sp_in (fun c d => n1 ⟨by omega, eqm ⟨by omega, eqm (h1 a b c d)⟩⟩) (fun q => n0 (h2 a b q)))) (fun q => n0 (h0 q))
theorem op_tracks {m : Mem} (hR : Rel m) (y v : Int) : wp_X10_tracks y v m (fun r m1 => wp_X11_tracks y v m1 (fun r2 m2 => r = r2 ∧ Rel m2)) := by
  obtain ⟨n1, n2, n3⟩ := hR.n
  refine sp_X10_tracks n3 (fun a b c d => ?_) (fun a b c => sp_X11_tracks (by omega) (fun _ _ e f => absurd ⟨e, f⟩ c) (fun _ _ _ => ⟨rfl, hR⟩) (fun q => absurd (show 0 ≤ y ∧ y < m 67 0 by omega) q)) (fun q => sp_X11_tracks (by omega) (fun a b => absurd (show 0 ≤ y ∧ y < m 1 0 by omega) q) (fun a b => absurd (show 0 ≤ y ∧ y < m 1 0 by omega) q) (fun _ => ⟨rfl, hR⟩))
  refine sp_X11_tracks (by simp only [mset_r, mset_s, rset_at, reduceIte, Int.reduceEq, not_false_eq_true]; omega) (fun _ _ _ _ => ?_) (fun _ _ q => absurd ⟨c, d⟩ q) (fun q => absurd (show 0 ≤ y ∧ y < mset (mset m 43 5 0) 45 y v 67 0 by simp only [mset_r, mset_s, rset_at, reduceIte, Int.reduceEq, not_false_eq_true]; omega) q)
  obtain ⟨h1, h2, h3, h4, h5, h6, h7, h8, h9, h10, h11⟩ := hR
  obtain ⟨a1, a2, a3, a4, a5, a6⟩ := h7
  unfold Rel
  simp only [mset_r, mset_s, rset_at, reduceIte, Int.reduceEq, not_false_eq_true]
  refine ⟨(a6 y a (by omega)).1.symm, h1, h2, h3, h4, h5, h6, ⟨a1, a2, a3, Or.inl rfl, a5, fun z z1 z2 => ?_⟩, fun q => absurd q (by decide), h9, h10, h11⟩
  simp only [rset_at]
  by_cases hz : z = y
  · rw [if_pos hz, if_pos hz]; exact ⟨rfl, c, d⟩
  · rw [if_neg hz, if_neg hz]; exact a6 z z1 z2
theorem sp_X10_load {a d v : Int} {m : Mem} {post : Int → Mem → Prop} (hn : m 1 0 ≤ 8) (h1 : 0 ≤ a → a < m 1 0 → 0 ≤ d → d < m 1 0 → a ≠ d → 0 ≤ v → v ≤ 99 → post (m 44 (8 * a + d)) (mset (mset m 43 5 0) 44 (8 * a + d) v)) (h2 : 0 ≤ a → a < m 1 0 → 0 ≤ d → d < m 1 0 → a ≠ d → ¬ (0 ≤ v ∧ v ≤ 99) → post (-102) m) (h0 : ¬ (0 ≤ a ∧ a < m 1 0 ∧ 0 ≤ d ∧ d < m 1 0 ∧ a ≠ d) → post (-101) m) : wp_X10_load a d v m post := by
  unfold wp_X10_load wp_X5_forget
  refine sp_X3_hasPair (fun b c e f g => n1 ⟨fun h => h2 b c e f g (by omega), fun h => ⟨fun k => eqm ?_, fun k => h2 b c e f g (by omega)⟩⟩) (fun q => n0 (h0 q))
  rw [ix8 b (by omega) e (by omega)]
  refine ⟨by omega, eqm ⟨by omega, eqm ?_⟩⟩
  have := h1 b c e f g (by omega) k
  simp only [mset_r, mset_s, rset_at, reduceIte, Int.reduceEq, not_false_eq_true]
  exact this
theorem sp_X11_load {a d v : Int} {m : Mem} {post : Int → Mem → Prop} (hn : 0 ≤ m 67 0 ∧ m 67 0 ≤ 8) (h1 : 0 ≤ a → a < m 67 0 → 0 ≤ d → d < m 67 0 → a ≠ d → 0 ≤ v → v ≤ 99 → post (m 81 (8 * a + d)) (mset m 81 (8 * a + d) v)) (h2 : 0 ≤ a → a < m 67 0 → 0 ≤ d → d < m 67 0 → a ≠ d → ¬ (0 ≤ v ∧ v ≤ 99) → post (-102) m) (h0 : ¬ (0 ≤ a ∧ a < m 67 0 ∧ 0 ≤ d ∧ d < m 67 0 ∧ a ≠ d) → post (-101) m) : wp_X11_load a d v m post := by
  unfold wp_X11_load
  refine sp_isYard (by omega) (fun b c => z1 (sp_isYard (by omega) (fun e f => z1 ⟨fun g => sp_in (fun k l => n1 ?_) (fun q => n0 (h2 b c e f g q)), fun g => h0 (by omega)⟩) (fun q => z0 (h0 (by omega))))) (fun q => z0 (h0 (by omega)))
  rw [ix8' b (by omega) e (by omega)]
  exact ⟨by omega, eqm ⟨by omega, eqm (h1 b c e f g k l)⟩⟩
theorem op_load {m : Mem} (hR : Rel m) (a d v : Int) : wp_X10_load a d v m (fun r m1 => wp_X11_load a d v m1 (fun r2 m2 => r = r2 ∧ Rel m2)) := by
  obtain ⟨n1, n2, n3⟩ := hR.n
  refine sp_X10_load n3 (fun b c e f g h k => ?_) (fun b c e f g h => sp_X11_load (by omega) (fun _ _ _ _ _ x y => absurd ⟨x, y⟩ h) (fun _ _ _ _ _ _ => ⟨rfl, hR⟩) (fun q => absurd (show 0 ≤ a ∧ a < m 67 0 ∧ 0 ≤ d ∧ d < m 67 0 ∧ a ≠ d by omega) q)) (fun q => sp_X11_load (by omega) (fun _ _ _ _ _ => absurd (show 0 ≤ a ∧ a < m 1 0 ∧ 0 ≤ d ∧ d < m 1 0 ∧ a ≠ d by omega) q) (fun _ _ _ _ _ => absurd (show 0 ≤ a ∧ a < m 1 0 ∧ 0 ≤ d ∧ d < m 1 0 ∧ a ≠ d by omega) q) (fun _ => ⟨rfl, hR⟩))
  refine sp_X11_load (by simp only [mset_r, mset_s, rset_at, reduceIte, Int.reduceEq, not_false_eq_true]; omega) (fun _ _ _ _ _ _ _ => ?_) (fun _ _ _ _ _ q => absurd ⟨h, k⟩ q) (fun q => absurd (show 0 ≤ a ∧ a < mset (mset m 43 5 0) 44 (8 * a + d) v 67 0 ∧ 0 ≤ d ∧ d < mset (mset m 43 5 0) 44 (8 * a + d) v 67 0 ∧ a ≠ d by simp only [mset_r, mset_s, rset_at, reduceIte, Int.reduceEq, not_false_eq_true]; omega) q)
  obtain ⟨h1, h2, h3, h4, h5, h6, h7, h8, h9, h10, h11⟩ := hR
  obtain ⟨a1, a2, a3, a4, a5, a6⟩ := h7
  unfold Rel
  simp only [mset_r, mset_s, rset_at, reduceIte, Int.reduceEq, not_false_eq_true]
  refine ⟨(a5 a d b (by omega) e (by omega)).1.symm, h1, h2, h3, h4, h5, h6, ⟨a1, a2, a3, Or.inl rfl, fun x y x1 x2 y1 y2 => ?_, a6⟩, fun q => absurd q (by decide), h9, h10, h11⟩
  simp only [rset_at]
  by_cases hz : 8 * x + y = 8 * a + d
  · rw [if_pos hz, if_pos hz]; exact ⟨rfl, h, k, fun q => by omega⟩
  · rw [if_neg hz, if_neg hz]; exact a5 x y x1 x2 y1 y2
theorem sp_X10_miles {a d v : Int} {m : Mem} {post : Int → Mem → Prop} (hn : m 1 0 ≤ 8) (h1 : 0 ≤ a → a < m 1 0 → 0 ≤ d → d < m 1 0 → a ≠ d → 1 ≤ v → v ≤ 99 → post (m 2 (8 * a + d)) (mset (mset (mset m 43 5 0) 2 (8 * a + d) v) 2 (8 * d + a) v)) (h2 : 0 ≤ a → a < m 1 0 → 0 ≤ d → d < m 1 0 → a ≠ d → ¬ (1 ≤ v ∧ v ≤ 99) → post (-102) m) (h0 : ¬ (0 ≤ a ∧ a < m 1 0 ∧ 0 ≤ d ∧ d < m 1 0 ∧ a ≠ d) → post (-101) m) : wp_X10_miles a d v m post := by
  unfold wp_X10_miles wp_X5_forget wp_X3_setMiles
  refine sp_X3_hasPair (fun b c e f g => n1 ⟨fun h => h2 b c e f g (by omega), fun h => ⟨fun k => eqm ?_, fun k => h2 b c e f g (by omega)⟩⟩) (fun q => n0 (h0 q))
  rw [ix8 b (by omega) e (by omega), ix8 e (by omega) b (by omega)]
  refine ⟨by omega, eqm ⟨by omega, eqm ⟨by omega, eqm ?_⟩⟩⟩
  have := h1 b c e f g (by omega) k
  rw [mset_r (c := 43) (c' := 2) (by decide)]
  exact this
theorem sp_X11_miles {a d v : Int} {m : Mem} {post : Int → Mem → Prop} (hn : 0 ≤ m 67 0 ∧ m 67 0 ≤ 8) (h1 : 0 ≤ a → a < m 67 0 → 0 ≤ d → d < m 67 0 → a ≠ d → 1 ≤ v → v ≤ 99 → post (m 68 (8 * a + d)) (mset (mset m 68 (8 * a + d) v) 68 (8 * d + a) v)) (h2 : 0 ≤ a → a < m 67 0 → 0 ≤ d → d < m 67 0 → a ≠ d → ¬ (1 ≤ v ∧ v ≤ 99) → post (-102) m) (h0 : ¬ (0 ≤ a ∧ a < m 67 0 ∧ 0 ≤ d ∧ d < m 67 0 ∧ a ≠ d) → post (-101) m) : wp_X11_miles a d v m post := by
  unfold wp_X11_miles
  refine sp_isYard (by omega) (fun b c => z1 (sp_isYard (by omega) (fun e f => z1 ⟨fun g => sp_in (fun k l => n1 ?_) (fun q => n0 (h2 b c e f g q)), fun g => h0 (by omega)⟩) (fun q => z0 (h0 (by omega))))) (fun q => z0 (h0 (by omega)))
  rw [ix8' b (by omega) e (by omega), ix8' e (by omega) b (by omega)]
  exact ⟨by omega, eqm ⟨by omega, eqm ⟨by omega, eqm (h1 b c e f g k l)⟩⟩⟩
theorem op_miles {m : Mem} (hR : Rel m) (a d v : Int) : wp_X10_miles a d v m (fun r m1 => wp_X11_miles a d v m1 (fun r2 m2 => r = r2 ∧ Rel m2)) := by
  obtain ⟨n1, n2, n3⟩ := hR.n
  refine sp_X10_miles n3 (fun b c e f g h k => ?_) (fun b c e f g h => sp_X11_miles (by omega) (fun _ _ _ _ _ x y => absurd ⟨x, y⟩ h) (fun _ _ _ _ _ _ => ⟨rfl, hR⟩) (fun q => absurd (show 0 ≤ a ∧ a < m 67 0 ∧ 0 ≤ d ∧ d < m 67 0 ∧ a ≠ d by omega) q)) (fun q => sp_X11_miles (by omega) (fun _ _ _ _ _ => absurd (show 0 ≤ a ∧ a < m 1 0 ∧ 0 ≤ d ∧ d < m 1 0 ∧ a ≠ d by omega) q) (fun _ _ _ _ _ => absurd (show 0 ≤ a ∧ a < m 1 0 ∧ 0 ≤ d ∧ d < m 1 0 ∧ a ≠ d by omega) q) (fun _ => ⟨rfl, hR⟩))
  have e0 : mset (mset (mset m 43 5 0) 2 (8 * a + d) v) 2 (8 * d + a) v 67 0 = m 67 0 := by simp only [mset_r, mset_s, rset_at, reduceIte, Int.reduceEq, not_false_eq_true]
  refine sp_X11_miles (by rw [e0]; omega) (fun _ _ _ _ _ _ _ => ?_) (fun _ _ _ _ _ q => absurd ⟨h, k⟩ q) (fun q => absurd (by rw [e0]; omega) q)
  obtain ⟨h1, h2, h3, h4, h5, h6, h7, h8, h9, h10, h11⟩ := hR
  obtain ⟨a1, a2, a3, a4, a5, a6⟩ := h7
  obtain ⟨b1, b2, b3, b4⟩ := h1
  unfold Rel
  simp only [mset_r, mset_s, rset_at, reduceIte, Int.reduceEq, not_false_eq_true]
  refine ⟨(b4 a d b (by omega) e (by omega) g).1.symm, ⟨b1, b2, b3, fun x y x1 x2 y1 y2 xy => ?_⟩, h2, h3, h4, h5, h6, ⟨a1, a2, a3, Or.inl rfl, a5, a6⟩, fun q => absurd q (by decide), h9, h10, h11⟩
  simp only [rset_at]
  by_cases hz : 8 * x + y = 8 * d + a
  · rw [if_pos hz, if_pos hz]; exact ⟨rfl, h, k⟩
  · rw [if_neg hz, if_neg hz]
    by_cases hz : 8 * x + y = 8 * a + d
    · rw [if_pos hz, if_pos hz]; exact ⟨rfl, h, k⟩
    · rw [if_neg hz, if_neg hz]; exact b4 x y x1 x2 y1 y2 xy
theorem sp_X10_price {w v : Int} {m : Mem} {post : Int → Mem → Prop} (h1 : w = 0 → 0 ≤ v → v ≤ 99 → post (m 43 0) (mset (mset m 43 5 0) 43 0 v)) (h3 : w = 1 → 0 ≤ v → v ≤ 99 → post (m 47 0) (mset m 47 0 v)) (h2 : (w = 0 ∨ w = 1) → ¬ (0 ≤ v ∧ v ≤ 99) → post (-102) m) (h0 : ¬ (w = 0 ∨ w = 1) → post (-101) m) : wp_X10_price w v m post := by
  unfold wp_X10_price wp_X5_forget
  refine ⟨fun h => h0 (by omega), fun h => ⟨fun a => ⟨fun b => h2 (by omega) (by omega), fun b => ⟨fun c => ⟨fun d => eqm (eqm (eqm ?_)), fun d => eqm (eqm (h3 d (by omega) c))⟩, fun c => h2 (by omega) (by omega)⟩⟩, fun a => h0 (by omega)⟩⟩
  have := h1 (by omega) (by omega) c
  simp only [mset_r, mset_s, rset_at, reduceIte, Int.reduceEq, not_false_eq_true]
  exact this
theorem sp_X11_price {w v : Int} {m : Mem} {post : Int → Mem → Prop} (h1 : w = 0 → 0 ≤ v → v ≤ 99 → post (m 67 24) (mset (mset m 67 24 v) 67 25 (m 67 25))) (h3 : w = 1 → 0 ≤ v → v ≤ 99 → post (m 67 25) (mset (mset m 67 24 (m 67 24)) 67 25 v)) (h2 : (w = 0 ∨ w = 1) → ¬ (0 ≤ v ∧ v ≤ 99) → post (-102) m) (h0 : ¬ (w = 0 ∨ w = 1) → post (-101) m) : wp_X11_price w v m post := by
  unfold wp_X11_price wp_X11_price_40 wp_X11_price_54
  refine sp_in (fun a b => n1 (sp_in (fun c d => n1 ?_) (fun q => n0 (h2 (by omega) q)))) (fun q => n0 (h0 (by omega)))
  by_cases hw : w = 0
  · refine nf hw (nf hw (eqm (nt (by omega) (eqm ?_))))
    have := h1 hw c d
    simp only [mset_s, rset_at, reduceIte, Int.reduceEq]
    exact this
  · exact nt hw (nt hw (eqm (nf (by omega) (eqm (h3 (by omega) c d)))))
theorem op_price {m : Mem} (hR : Rel m) (w v : Int) : wp_X10_price w v m (fun r m1 => wp_X11_price w v m1 (fun r2 m2 => r = r2 ∧ Rel m2)) := by
  refine sp_X10_price (fun a b c => sp_X11_price (fun _ _ _ => ?_) (fun q => by omega) (fun _ q => absurd ⟨b, c⟩ q) (fun q => absurd (Or.inl a) q)) (fun a b c => sp_X11_price (fun q => by omega) (fun _ _ _ => ?_) (fun _ q => absurd ⟨b, c⟩ q) (fun q => absurd (Or.inr a) q)) (fun a b => sp_X11_price (fun _ c d => absurd ⟨c, d⟩ b) (fun _ c d => absurd ⟨c, d⟩ b) (fun _ _ => ⟨rfl, hR⟩) (fun q => absurd a q)) (fun q => sp_X11_price (fun a => absurd (Or.inl a) q) (fun a => absurd (Or.inr a) q) (fun a => absurd a q) (fun _ => ⟨rfl, hR⟩))
  · obtain ⟨h1, h2, h3, h4, h5, h6, h7, h8, h9, h10, h11⟩ := hR
    obtain ⟨a1, a2, a3, a4, a5, a6⟩ := h7
    unfold Rel
    simp only [mset_r, mset_s, rset_at, reduceIte, Int.reduceEq, not_false_eq_true]
    exact ⟨a1.symm, h1, h2, h3, h4, h5, h6, ⟨rfl, b, c, Or.inl rfl, a5, a6⟩, fun q => absurd q (by decide), h9, h10, h11⟩
  · obtain ⟨h1, h2, h3, h4, h5, h6, h7, h8, h9, h10, h11⟩ := hR
    unfold Rel
    simp only [mset_r, mset_s, rset_at, reduceIte, Int.reduceEq, not_false_eq_true]
    exact ⟨h9.1.symm, h1, h2, h3, h4, h5, h6, h7, h8, ⟨rfl, b, c, h9.2.2.2⟩, h10, h11⟩
theorem ix3 {a b : Int} (ha : 0 ≤ a) (ha2 : a < 8) (hb : 0 ≤ b) (hb2 : b < 3) : w32 (w32 (a * 3) + b) = 3 * a + b := by unfold w32; omega
theorem ix3' {a b : Int} (ha : 0 ≤ a) (ha2 : a < 12) (hb : 0 ≤ b) (hb2 : b < 3) : w32 (w32 (3 * a) + b) = 3 * a + b := by unfold w32; omega
theorem ix6' {a b : Int} (ha : 0 ≤ a) (ha2 : a < 30) (hb : 0 ≤ b) (hb2 : b < 6) : w32 (w32 (6 * a) + b) = 6 * a + b := by unfold w32; omega
theorem ix6 {a : Int} (ha : 0 ≤ a) (ha2 : a < 30) : w32 (6 * a) = 6 * a := by unfold w32; omega
theorem ix4' {a b : Int} (ha : 0 ≤ a) (ha2 : a < 12) (hb : 0 ≤ b) (hb2 : b < 4) : w32 (w32 (4 * a) + b) = 4 * a + b := by unfold w32; omega
theorem sp_X10_empties {y w v : Int} {m : Mem} {post : Int → Mem → Prop} (hn : m 1 0 ≤ 8) (h1 : 0 ≤ y → y < m 1 0 → 0 ≤ w → w < 3 → -50 ≤ v → v ≤ 50 → post (m 48 (3 * y + w)) (mset m 48 (3 * y + w) v)) (h2 : 0 ≤ y → y < m 1 0 → 0 ≤ w → w < 3 → ¬ (-50 ≤ v ∧ v ≤ 50) → post (-1001) m) (h0 : ¬ (0 ≤ y ∧ y < m 1 0 ∧ 0 ≤ w ∧ w < 3) → post (-1000) m) : wp_X10_empties y w v m post := by
  unfold wp_X10_empties
  refine sp_X3_has (fun a b => z1 ⟨fun c => h0 (by omega), fun c => ⟨fun d => ⟨fun e => h2 a b (by omega) d (by omega), fun e => ⟨fun f => ?_, fun f => h2 a b (by omega) d (by omega)⟩⟩, fun d => h0 (by omega)⟩⟩) (fun q => z0 (h0 (by omega)))
  rw [ix3 a (by omega) (by omega) d]
  exact ⟨by omega, eqm ⟨by omega, eqm (h1 a b (by omega) d (by omega) f)⟩⟩
theorem sp_X11_empties {y w v : Int} {m : Mem} {post : Int → Mem → Prop} (hn : 0 ≤ m 67 0 ∧ m 67 0 ≤ 8) (h1 : 0 ≤ y → y < m 67 0 → 0 ≤ w → w < 3 → -50 ≤ v → v ≤ 50 → post (m 83 (3 * y + w)) (mset m 83 (3 * y + w) v)) (h2 : 0 ≤ y → y < m 67 0 → 0 ≤ w → w < 3 → ¬ (-50 ≤ v ∧ v ≤ 50) → post (-1001) m) (h0 : ¬ (0 ≤ y ∧ y < m 67 0 ∧ 0 ≤ w ∧ w < 3) → post (-1000) m) : wp_X11_empties y w v m post := by
  unfold wp_X11_empties
  refine sp_isYard (by omega) (fun a b => z1 (sp_in (fun c d => n1 (sp_in (fun e f => n1 ?_) (fun q => n0 (h2 a b c (by omega) q)))) (fun q => n0 (h0 (by omega))))) (fun q => z0 (h0 (by omega)))
  rw [ix3' a (by omega) c (by omega)]
  exact ⟨by omega, eqm ⟨by omega, eqm (h1 a b c (by omega) e f)⟩⟩
theorem op_empties {m : Mem} (hR : Rel m) (y w v : Int) : wp_X10_empties y w v m (fun r m1 => wp_X11_empties y w v m1 (fun r2 m2 => r = r2 ∧ Rel m2)) := by
  obtain ⟨n1, n2, n3⟩ := hR.n
  refine sp_X10_empties n3 (fun a b c d e f => ?_) (fun a b c d e => sp_X11_empties (by omega) (fun _ _ _ _ x y => absurd ⟨x, y⟩ e) (fun _ _ _ _ _ => ⟨rfl, hR⟩) (fun q => absurd (show 0 ≤ y ∧ y < m 67 0 ∧ 0 ≤ w ∧ w < 3 by omega) q)) (fun q => sp_X11_empties (by omega) (fun _ _ _ _ => absurd (show 0 ≤ y ∧ y < m 1 0 ∧ 0 ≤ w ∧ w < 3 by omega) q) (fun _ _ _ _ => absurd (show 0 ≤ y ∧ y < m 1 0 ∧ 0 ≤ w ∧ w < 3 by omega) q) (fun _ => ⟨rfl, hR⟩))
  have e0 : mset m 48 (3 * y + w) v 67 0 = m 67 0 := by simp only [mset_r, mset_s, rset_at, reduceIte, Int.reduceEq, not_false_eq_true]
  refine sp_X11_empties (by rw [e0]; omega) (fun _ _ _ _ _ _ => ?_) (fun _ _ _ _ q => absurd ⟨e, f⟩ q) (fun q => absurd (by rw [e0]; omega) q)
  obtain ⟨h1, h2, h3, h4, h5, h6, h7, h8, h9, h10, h11⟩ := hR
  obtain ⟨b1, b2, b3, b4⟩ := h9
  unfold Rel
  simp only [mset_r, mset_s, rset_at, reduceIte, Int.reduceEq, not_false_eq_true]
  refine ⟨(b4 (3 * y + w) (by omega) (by omega)).1.symm, h1, h2, h3, h4, h5, h6, h7, h8, ⟨b1, b2, b3, fun i i1 i2 => ?_⟩, h10, h11⟩
  simp only [rset_at]
  by_cases hz : i = 3 * y + w
  · rw [if_pos hz, if_pos hz]; exact ⟨rfl, e, f⟩
  · rw [if_neg hz, if_neg hz]; exact b4 i i1 i2
