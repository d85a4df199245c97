/-! the simple calls -/
def rset (f : Int → Int) (i v : Int) : Int → Int := fun j => if j = i then v else f j
theorem rset_at (f : Int → Int) (i v j : Int) : rset f i v j = if j = i then v else f j := rfl
theorem mset_r {m : Mem} {c i v c' : Int} (h : ¬ c' = c) : mset m c i v c' = m c' := mset_c h
theorem mset_s (m : Mem) (c i v : Int) : mset m c i v c = rset (m c) i v := by
  funext j
  unfold mset rset
  by_cases h : j = i
  · rw [if_pos ⟨rfl, h⟩, if_pos h]
  · rw [if_neg (fun q => h q.2), if_neg h]
theorem sp_X10_sorting {s : Int} {m : Mem} {post : Int → Mem → Prop} (h1 : 0 ≤ s → s ≤ 12 → post (m 28 1) (mset m 28 1 s)) (h0 : ¬ (0 ≤ s ∧ s ≤ 12) → post (-102) m) : wp_X10_sorting s m post := by
  unfold wp_X10_sorting
  exact ⟨fun h => h0 (by omega), fun h => ⟨fun h2 => eqm (eqm (h1 (by omega) h2)), fun h2 => h0 (by omega)⟩⟩
theorem sp_X11_sorting {s : Int} {m : Mem} {post : Int → Mem → Prop} (h1 : 0 ≤ s → s ≤ 12 → post (m 67 15) (mset m 67 15 s)) (h0 : ¬ (0 ≤ s ∧ s ≤ 12) → post (-102) m) : wp_X11_sorting s m post := by
  unfold wp_X11_sorting
  exact sp_in (fun a b => n1 (eqm (eqm (h1 a b)))) (fun q => n0 (h0 q))
theorem op_sorting {m : Mem} (hR : Rel m) (s : Int) : wp_X10_sorting s m (fun r m1 => wp_X11_sorting s m1 (fun r2 m2 => r = r2 ∧ Rel m2)) := by
  refine sp_X10_sorting (fun a b => sp_X11_sorting (fun _ _ => ?_) (fun q => absurd ⟨a, b⟩ q)) (fun q => sp_X11_sorting (fun a b => absurd ⟨a, b⟩ q) (fun _ => ⟨rfl, hR⟩))
  obtain ⟨h1, h2, h3, h4, h5, h6, h7, h8, h9, h10, h11⟩ := hR
  obtain ⟨a1, a2, a3, a4, a5, a6, a7⟩ := h5
  unfold Rel
  simp only [mset_r, mset_s, rset_at, reduceIte, Int.reduceEq, not_false_eq_true]
  exact ⟨a4.symm, h1, h2, h3, h4, ⟨a1, a2, a3, rfl, a, b, a7⟩, h6, h7, h8, h9, h10, h11⟩
theorem sp_X10_rest {s : Int} {m : Mem} {post : Int → Mem → Prop} (h1 : 0 ≤ s → s ≤ 48 → post (m 13 1) (mset m 13 1 s)) (h0 : ¬ (0 ≤ s ∧ s ≤ 48) → post (-102) m) : wp_X10_rest s m post := by
  unfold wp_X10_rest
  exact ⟨fun h => h0 (by omega), fun h => ⟨fun h2 => eqm (eqm (h1 (by omega) h2)), fun h2 => h0 (by omega)⟩⟩
theorem sp_X11_rest {s : Int} {m : Mem} {post : Int → Mem → Prop} (h1 : 0 ≤ s → s ≤ 48 → post (m 67 19) (mset m 67 19 s)) (h0 : ¬ (0 ≤ s ∧ s ≤ 48) → post (-102) m) : wp_X11_rest s m post := by
  unfold wp_X11_rest
  exact sp_in (fun a b => n1 (eqm (eqm (h1 a b)))) (fun q => n0 (h0 q))
theorem op_rest {m : Mem} (hR : Rel m) (s : Int) : wp_X10_rest s m (fun r m1 => wp_X11_rest s m1 (fun r2 m2 => r = r2 ∧ Rel m2)) := by
  refine sp_X10_rest (fun a b => sp_X11_rest (fun _ _ => ?_) (fun q => absurd ⟨a, b⟩ q)) (fun q => sp_X11_rest (fun a b => absurd ⟨a, b⟩ q) (fun _ => ⟨rfl, hR⟩))
  obtain ⟨h1, h2, h3, h4, h5, h6, h7, h8, h9, h10, h11⟩ := hR
  obtain ⟨a1, a2, a3, a4, a5, a6, a7⟩ := h4
  unfold Rel
  simp only [mset_r, mset_s, rset_at, reduceIte, Int.reduceEq, not_false_eq_true]
  exact ⟨a4.symm, h1, h2, h3, ⟨a1, a2, a3, rfl, a, b, a7⟩, h5, h6, h7, h8, h9, h10, h11⟩
theorem op_drive {m : Mem} (hR : Rel m) : wp_X10_drive m (fun r m1 => wp_X11_drive m1 (fun r2 m2 => r = r2 ∧ Rel m2)) := by
  unfold wp_X10_drive wp_X11_drive
  refine eqm (eqm (eqm (eqm ?_)))
  obtain ⟨h1, h2, h3, h4, h5, h6, h7, h8, h9, h10, h11⟩ := hR
  unfold Rel
  simp only [mset_r, mset_s, rset_at, reduceIte, Int.reduceEq, not_false_eq_true]
  exact ⟨h6.1.symm, h1, h2, h3, h4, h5, ⟨rfl, by omega, by omega, fun i a b => by omega⟩, h7, h8, h9, h10, h11⟩
theorem op_stay {m : Mem} (hR : Rel m) : wp_X10_stay m (fun r m1 => wp_X11_stay m1 (fun r2 m2 => r = r2 ∧ Rel m2)) := by
  unfold wp_X10_stay wp_X11_stay
  refine eqm (eqm (eqm (eqm ?_)))
  obtain ⟨h1, h2, h3, h4, h5, h6, h7, h8, h9, h10, h11⟩ := hR
  unfold Rel
  simp only [mset_r, mset_s, rset_at, reduceIte, Int.reduceEq, not_false_eq_true]
  exact ⟨h10.1.symm, h1, h2, h3, h4, h5, h6, h7, h8, h9, ⟨rfl, by omega, by omega, fun i a b => by omega⟩, h11⟩
theorem op_blank {m : Mem} (hR : Rel m) : wp_X10_blank m (fun r m1 => wp_X11_blank m1 (fun r2 m2 => r = r2 ∧ Rel m2)) := by
  unfold wp_X10_blank wp_X11_blank
  refine eqm (eqm (eqm (eqm ?_)))
  obtain ⟨h1, h2, h3, h4, h5, h6, h7, h8, h9, h10, h11⟩ := hR
  unfold Rel
  simp only [mset_r, mset_s, rset_at, reduceIte, Int.reduceEq, not_false_eq_true]
  exact ⟨h2.1.symm, h1, ⟨rfl, by omega, by omega, fun i a b => by omega⟩, h3, h4, h5, h6, h7, h8, h9, h10, h11⟩
theorem sp_X10_roll {s : Int} {m : Mem} {post : Int → Mem → Prop} (hk : 0 ≤ m 37 0 ∧ m 37 0 ≤ 16) (h1 : 0 ≤ s → s ≤ 15 → m 37 0 < 16 → post (m 37 0 + 1) (mset (mset m 40 (m 37 0) s) 37 0 (m 37 0 + 1))) (h2 : 0 ≤ s → s ≤ 15 → m 37 0 = 16 → post (-104) m) (h0 : ¬ (0 ≤ s ∧ s ≤ 15) → post (-102) m) : wp_X10_roll s m post := by
  unfold wp_X10_roll wp_X7_add
  refine ⟨fun h => h0 (by omega), fun h => ⟨fun h3 => ⟨fun h4 => ⟨by omega, eqm (eqm ?_)⟩, fun h4 => h2 (by omega) h3 (by omega)⟩, fun h3 => h0 (by omega)⟩⟩
  have := h1 (by omega) h3 h4
  simp only [mset_r, mset_s, rset_at, reduceIte, Int.reduceEq, not_false_eq_true]
  rw [w32_i (by omega)]
  exact this
theorem sp_X11_roll {s : Int} {m : Mem} {post : Int → Mem → Prop} (hk : 0 ≤ m 67 20 ∧ m 67 20 ≤ 16) (h1 : 0 ≤ s → s ≤ 15 → m 67 20 < 16 → post (m 67 20 + 1) (mset (mset m 80 (m 67 20) s) 67 20 (m 67 20 + 1))) (h2 : 0 ≤ s → s ≤ 15 → m 67 20 = 16 → post (-104) m) (h0 : ¬ (0 ≤ s ∧ s ≤ 15) → post (-102) m) : wp_X11_roll s m post := by
  unfold wp_X11_roll
  refine sp_in (fun a b => n1 ⟨fun h4 => ⟨by omega, eqm (eqm ?_)⟩, fun h4 => h2 a b h4⟩) (fun q => n0 (h0 q))
  have := h1 a b (by omega)
  simp only [mset_r, mset_s, rset_at, reduceIte, Int.reduceEq, not_false_eq_true]
  rw [w32_i (by omega)]
  exact this
theorem op_roll {m : Mem} (hR : Rel m) (s : Int) : wp_X10_roll s m (fun r m1 => wp_X11_roll s m1 (fun r2 m2 => r = r2 ∧ Rel m2)) := by
  obtain ⟨e, k1, k2, k3⟩ := hR.2.2.2.2.2.1
  refine sp_X10_roll ⟨k1, k2⟩ (fun a b c => ?_) (fun a b c => sp_X11_roll (by omega) (fun _ _ d => absurd d (by omega)) (fun _ _ _ => ⟨rfl, hR⟩) (fun q => absurd ⟨a, b⟩ q)) (fun q => sp_X11_roll (by omega) (fun a b => absurd ⟨a, b⟩ q) (fun a b => absurd ⟨a, b⟩ q) (fun _ => ⟨rfl, hR⟩))
  refine sp_X11_roll (by simp only [mset_r, mset_s, rset_at, reduceIte, Int.reduceEq, not_false_eq_true]; omega) (fun _ _ _ => ?_) (fun _ _ d => absurd d (by simp only [mset_r, mset_s, rset_at, reduceIte, Int.reduceEq, not_false_eq_true]; omega)) (fun q => absurd ⟨a, b⟩ q)
  obtain ⟨h1, h2, h3, h4, h5, h6, h7, h8, h9, h10, h11⟩ := hR
  unfold Rel
  simp only [mset_r, mset_s, rset_at, reduceIte, Int.reduceEq, not_false_eq_true]
  refine ⟨by omega, h1, h2, h3, h4, h5, ⟨by omega, by omega, by omega, fun i i1 i2 => ?_⟩, h7, h8, h9, h10, h11⟩
  rw [e]
  simp only [rset_at]
  by_cases hi : i = m 37 0
  · rw [if_pos hi, if_pos hi]; exact ⟨rfl, a, b⟩
  · rw [if_neg hi, if_neg hi]; exact h6.2.2.2 i i1 (by omega)
theorem sp_X10_leg {s t : Int} {m : Mem} {post : Int → Mem → Prop} (hk : 0 ≤ m 59 0 ∧ m 59 0 ≤ 5) (h1 : 1 ≤ s ∧ s ≤ 99 ∧ 0 ≤ t ∧ t ≤ 9 → m 59 0 < 5 → post (m 59 0 + 1) (mset (mset (mset m 60 (m 59 0) s) 61 (m 59 0) t) 59 0 (m 59 0 + 1))) (h2 : 1 ≤ s ∧ s ≤ 99 ∧ 0 ≤ t ∧ t ≤ 9 → m 59 0 = 5 → post (-104) m) (h0 : ¬ (1 ≤ s ∧ s ≤ 99 ∧ 0 ≤ t ∧ t ≤ 9) → post (-102) m) : wp_X10_leg s t m post := by
  unfold wp_X10_leg wp_X4_add
  refine ⟨fun h => h0 (by omega), fun h => ⟨fun h3 => h0 (by omega), fun h3 => ⟨fun h4 => h0 (by omega), fun h4 => ⟨fun h5 => ⟨fun h6 => ⟨by omega, eqm ⟨?_, eqm (eqm ?_)⟩⟩, fun h6 => h2 (by omega) (by omega)⟩, fun h5 => h0 (by omega)⟩⟩⟩⟩
  · simp only [mset_r, mset_s, rset_at, reduceIte, Int.reduceEq, not_false_eq_true]; omega
  · have := h1 (by omega) h6
    simp only [mset_r, mset_s, rset_at, reduceIte, Int.reduceEq, not_false_eq_true]
    rw [w32_i (by omega)]
    exact this
theorem sp_X11_leg {s t : Int} {m : Mem} {post : Int → Mem → Prop} (hk : 0 ≤ m 67 27 ∧ m 67 27 ≤ 5) (h1 : 1 ≤ s ∧ s ≤ 99 ∧ 0 ≤ t ∧ t ≤ 9 → m 67 27 < 5 → post (m 67 27 + 1) (mset (mset (mset m 84 (m 67 27) s) 85 (m 67 27) t) 67 27 (m 67 27 + 1))) (h2 : 1 ≤ s ∧ s ≤ 99 ∧ 0 ≤ t ∧ t ≤ 9 → m 67 27 = 5 → post (-104) m) (h0 : ¬ (1 ≤ s ∧ s ≤ 99 ∧ 0 ≤ t ∧ t ≤ 9) → post (-102) m) : wp_X11_leg s t m post := by
  unfold wp_X11_leg
  refine sp_in (fun a b => z1 (sp_in (fun c d => n1 ⟨fun h6 => ⟨by omega, eqm ⟨?_, eqm (eqm ?_)⟩⟩, fun h6 => h2 (by omega) (by omega)⟩) (fun q => n0 (h0 (by omega))))) (fun q => z0 (h0 (by omega)))
  · simp only [mset_r, mset_s, rset_at, reduceIte, Int.reduceEq, not_false_eq_true]; omega
  · have := h1 (by omega) (by omega)
    simp only [mset_r, mset_s, rset_at, reduceIte, Int.reduceEq, not_false_eq_true]
    rw [w32_i (by omega)]
    exact this
theorem op_leg {m : Mem} (hR : Rel m) (s t : Int) : wp_X10_leg s t m (fun r m1 => wp_X11_leg s t m1 (fun r2 m2 => r = r2 ∧ Rel m2)) := by
  obtain ⟨e, k1, k2, k3⟩ := hR.2.2.2.2.2.2.2.2.2.1
  refine sp_X10_leg ⟨k1, k2⟩ (fun a c => ?_) (fun a c => sp_X11_leg (by omega) (fun _ d => absurd d (by omega)) (fun _ _ => ⟨rfl, hR⟩) (fun q => absurd a q)) (fun q => sp_X11_leg (by omega) (fun a => absurd a q) (fun a => absurd a q) (fun _ => ⟨rfl, hR⟩))
  refine sp_X11_leg (by simp only [mset_r, mset_s, rset_at, reduceIte, Int.reduceEq, not_false_eq_true]; omega) (fun _ _ => ?_) (fun _ d => absurd d (by simp only [mset_r, mset_s, rset_at, reduceIte, Int.reduceEq, not_false_eq_true]; omega)) (fun q => absurd a q)
  obtain ⟨h1, h2, h3, h4, h5, h6, h7, h8, h9, h10, h11⟩ := hR
  unfold Rel
  simp only [mset_r, mset_s, rset_at, reduceIte, Int.reduceEq, not_false_eq_true]
  refine ⟨by omega, h1, h2, h3, h4, h5, h6, h7, h8, h9, ⟨by omega, by omega, by omega, fun i i1 i2 => ?_⟩, h11⟩
  rw [e]
  simp only [rset_at]
  by_cases hi : i = m 59 0
  · rw [if_pos hi, if_pos hi, if_pos hi, if_pos hi]; exact ⟨rfl, rfl, a.1, a.2.1, a.2.2.1, a.2.2.2⟩
  · rw [if_neg hi, if_neg hi, if_neg hi, if_neg hi]; exact h10.2.2.2 i i1 (by omega)
