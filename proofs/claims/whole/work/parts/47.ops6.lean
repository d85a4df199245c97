/-! train -/
def trKn (k x y : Int) (fr to : Int → Int) : Prop := 0 ≤ x ∧ x < k ∧ (y = -1 ∨ (0 ≤ y ∧ y < k ∧ fr x = fr y ∧ to x = to y))
def trOk (d h t l : Int) : Prop := 1 ≤ d ∧ d ≤ 127 ∧ 0 ≤ h ∧ h < 24 ∧ 1 ≤ t ∧ t ≤ 48 ∧ 1 ≤ l ∧ l ≤ 12
def trMC (m : Mem) (x y d h t l : Int) : Mem := mset (mset (mset (mset (mset (mset (mset (mset (mset (mset (mset (mset (mset (mset m 20 (m 13 0) d) 21 (m 13 0) h) 18 (m 13 0) t) 19 (m 13 0) l) 22 (m 13 0) 0) 23 (m 13 0) 0) 24 (m 13 0) 0) 25 (m 13 0) (-1000)) 26 (m 13 0) (-1000)) 13 0 (m 13 0 + 1)) 14 (m 13 0) x) 15 (m 13 0) y) 16 (m 13 0) (m 7 x)) 17 (m 13 0) (m 8 x)
theorem sp_X10_train50 {x y d h t l : Int} {m : Mem} {post : Int → Mem → Prop} (ht : 0 ≤ m 13 0 ∧ m 13 0 ≤ 12) (hx : 0 ≤ x ∧ x < 20) (hO : ¬ trOk d h t l → post (-102) m) (hF : trOk d h t l → m 13 0 = 12 → post (-104) m) (h1 : trOk d h t l → m 13 0 < 12 → post (m 13 0) (trMC m x y d h t l)) : wp_X10_train_50 x y d h t l m post := by
  unfold trOk at hO hF h1
  unfold wp_X10_train_50 wp_X8_add wp_X8_serve
  refine ⟨fun a => hO (by omega), fun a => ⟨fun b => hO (by omega), fun b => ⟨fun c => hO (by omega), fun c => ⟨fun e => ⟨fun f => hO (by omega), fun f => ⟨fun g => hO (by omega), fun g => ⟨fun i => hO (by omega), fun i => ⟨fun j => ⟨fun k => ?_, fun k => hF (by omega) (by omega)⟩, fun j => hO (by omega)⟩⟩⟩⟩, fun e => hO (by omega)⟩⟩⟩⟩
  have := h1 (by omega) k
  unfold trMC at this
  refine eqm ⟨by omega, eqm ⟨by omega, eqm ⟨by omega, eqm ⟨by omega, eqm ⟨by omega, eqm ⟨by omega, eqm ⟨by omega, eqm ⟨by omega, eqm ⟨by omega, eqm (eqm ⟨by omega, eqm ⟨by omega, eqm ⟨by omega, by omega, eqm ⟨by omega, by omega, eqm ?_⟩⟩⟩⟩)⟩⟩⟩⟩⟩⟩⟩⟩⟩
  simp only [mset_r, mset_s, rset_at, reduceIte, Int.reduceEq, not_false_eq_true]
  rw [w32_i (by omega)]
  exact this
theorem sp_X10_train {x y d h t l : Int} {m : Mem} {post : Int → Mem → Prop} (hk : 0 ≤ m 6 0 ∧ m 6 0 ≤ 20) (ht : 0 ≤ m 13 0 ∧ m 13 0 ≤ 12) (hU : ¬ trKn (m 6 0) x y (m 7) (m 8) → post (-101) m) (hO : trKn (m 6 0) x y (m 7) (m 8) → ¬ trOk d h t l → post (-102) m) (hF : trKn (m 6 0) x y (m 7) (m 8) → trOk d h t l → m 13 0 = 12 → post (-104) m) (h1 : trKn (m 6 0) x y (m 7) (m 8) → trOk d h t l → m 13 0 < 12 → post (m 13 0) (trMC m x y d h t l)) : wp_X10_train x y d h t l m post := by
  unfold trKn at hU hO hF h1
  unfold wp_X10_train wp_X10_train_30 wp_X0_madeAlike
  refine sp_X0_has (fun a b => z1 ⟨fun c => bt c (sp_X10_train50 ht (by omega) (hO ⟨a, b, Or.inl c⟩) (hF ⟨a, b, Or.inl c⟩) (h1 ⟨a, b, Or.inl c⟩)), fun c => sp_X0_has (fun e f => n1 (bf c ⟨by omega, by omega, ⟨fun g => n0 ?_, fun g => ⟨by omega, by omega, ⟨fun i => n0 ?_, fun i => n1 ?_⟩⟩⟩⟩)) (fun q => n0 (hU (fun z => by rcases z.2.2 with z | z <;> omega)))⟩) (fun q => z0 (hU (fun z => q ⟨z.1, z.2.1⟩)))
  · exact hU (fun z => by rcases z.2.2 with z | z; omega; exact g z.2.2.1)
  · exact hU (fun z => by rcases z.2.2 with z | z; omega; exact i z.2.2.2)
  · exact sp_X10_train50 ht (by omega) (hO ⟨a, b, Or.inr ⟨e, f, g, i⟩⟩) (hF ⟨a, b, Or.inr ⟨e, f, g, i⟩⟩) (h1 ⟨a, b, Or.inr ⟨e, f, g, i⟩⟩)
def trMM (m : Mem) (x y d h t l : Int) : Mem := mset (mset (mset (mset (mset (mset (mset (mset (mset (mset (mset (mset (mset (mset m 74 (6 * m 67 9) x) 74 (6 * m 67 9 + 1) y) 74 (6 * m 67 9 + 2) d) 74 (6 * m 67 9 + 3) h) 74 (6 * m 67 9 + 4) t) 74 (6 * m 67 9 + 5) l) 75 (3 * m 67 9) 0) 75 (3 * m 67 9 + 1) 0) 75 (3 * m 67 9 + 2) 0) 76 (4 * m 67 9) (-1)) 76 (4 * m 67 9 + 1) (-1)) 76 (4 * m 67 9 + 2) (-1)) 76 (4 * m 67 9 + 3) (-1)) 67 9 (m 67 9 + 1)
theorem sp_X11_train71 {x y d h t l : Int} {m : Mem} {post : Int → Mem → Prop} (ht : 0 ≤ m 67 9 ∧ m 67 9 ≤ 12) (hO : ¬ trOk d h t l → post (-102) m) (hF : trOk d h t l → m 67 9 = 12 → post (-104) m) (h1 : trOk d h t l → m 67 9 < 12 → post (m 67 9) (trMM m x y d h t l)) : wp_X11_train_71 x y d h t l m post := by
  unfold trOk at hO hF h1
  unfold wp_X11_train_71
  refine sp_in (fun a1 a2 => z1 (sp_in (fun b1 b2 => z1 (sp_in (fun c1 c2 => z1 (sp_in (fun d1 d2 => n1 ⟨fun k => ?_, fun k => hF (by omega) k⟩) (fun q => n0 (hO (by omega))))) (fun q => z0 (hO (by omega))))) (fun q => z0 (hO (by omega))))) (fun q => z0 (hO (by omega)))
  have h1 := h1 (by omega) (by omega)
  unfold trMM at h1
  rw [ix6 ht.1 (by omega)]
  refine ⟨by omega, eqm ?_⟩
  simp only [mset_r, mset_s, rset_at, reduceIte, Int.reduceEq, not_false_eq_true]
  rw [ix6' ht.1 (by omega) (by decide) (by decide)]
  refine ⟨by omega, eqm ?_⟩
  simp only [mset_r, mset_s, rset_at, reduceIte, Int.reduceEq, not_false_eq_true]
  rw [ix6' ht.1 (by omega) (by decide) (by decide)]
  refine ⟨by omega, eqm ?_⟩
  simp only [mset_r, mset_s, rset_at, reduceIte, Int.reduceEq, not_false_eq_true]
  rw [ix6' ht.1 (by omega) (by decide) (by decide)]
  refine ⟨by omega, eqm ?_⟩
  simp only [mset_r, mset_s, rset_at, reduceIte, Int.reduceEq, not_false_eq_true]
  rw [ix6' ht.1 (by omega) (by decide) (by decide)]
  refine ⟨by omega, eqm ?_⟩
  simp only [mset_r, mset_s, rset_at, reduceIte, Int.reduceEq, not_false_eq_true]
  rw [ix6' ht.1 (by omega) (by decide) (by decide)]
  refine ⟨by omega, eqm ⟨4, ?_⟩⟩
  unfold wp_X11_train_223
  simp only [mset_r, mset_s, rset_at, reduceIte, Int.reduceEq, not_false_eq_true]
  rw [ix3' ht.1 (by omega) (by decide) (by decide)]
  refine bf (by decide) ⟨by omega, eqm ?_⟩
  unfold wp_X11_train_223
  simp only [mset_r, mset_s, rset_at, reduceIte, Int.reduceEq, not_false_eq_true]
  rw [show w32 (0 + 1) = 1 by decide, ix3' ht.1 (by omega) (by decide) (by decide)]
  refine bf (by decide) ⟨by omega, eqm ?_⟩
  unfold wp_X11_train_223
  simp only [mset_r, mset_s, rset_at, reduceIte, Int.reduceEq, not_false_eq_true]
  rw [show w32 (1 + 1) = 2 by decide, ix3' ht.1 (by omega) (by decide) (by decide)]
  refine bf (by decide) ⟨by omega, eqm ?_⟩
  unfold wp_X11_train_223
  rw [show w32 (2 + 1) = 3 by decide]
  refine bt (by decide) ⟨5, ?_⟩
  unfold wp_X11_train_253
  simp only [mset_r, mset_s, rset_at, reduceIte, Int.reduceEq, not_false_eq_true]
  rw [ix4' ht.1 (by omega) (by decide) (by decide)]
  refine bf (by decide) ⟨by omega, eqm ?_⟩
  unfold wp_X11_train_253
  simp only [mset_r, mset_s, rset_at, reduceIte, Int.reduceEq, not_false_eq_true]
  rw [show w32 (0 + 1) = 1 by decide, ix4' ht.1 (by omega) (by decide) (by decide)]
  refine bf (by decide) ⟨by omega, eqm ?_⟩
  unfold wp_X11_train_253
  simp only [mset_r, mset_s, rset_at, reduceIte, Int.reduceEq, not_false_eq_true]
  rw [show w32 (1 + 1) = 2 by decide, ix4' ht.1 (by omega) (by decide) (by decide)]
  refine bf (by decide) ⟨by omega, eqm ?_⟩
  unfold wp_X11_train_253
  simp only [mset_r, mset_s, rset_at, reduceIte, Int.reduceEq, not_false_eq_true]
  rw [show w32 (2 + 1) = 3 by decide, ix4' ht.1 (by omega) (by decide) (by decide)]
  refine bf (by decide) ⟨by omega, eqm ?_⟩
  unfold wp_X11_train_253
  rw [show w32 (3 + 1) = 4 by decide]
  refine bt (by decide) (eqm ?_)
  simp only [mset_r, mset_s, rset_at, reduceIte, Int.reduceEq, not_false_eq_true]
  rw [w32_i (x := m 67 9 + 1) (by omega), w32_i (x := m 67 9 + 1 - 1) (by omega), show m 67 9 + 1 - 1 = m 67 9 by omega]
  simp only [Int.add_zero]
  exact h1
theorem sp_X11_train {x y d h t l : Int} {m : Mem} {post : Int → Mem → Prop} (hk : 0 ≤ m 67 4 ∧ m 67 4 ≤ 20) (ht : 0 ≤ m 67 9 ∧ m 67 9 ≤ 12) (hU : ¬ trKn (m 67 4) x y (m 70) (m 71) → post (-101) m) (hO : trKn (m 67 4) x y (m 70) (m 71) → ¬ trOk d h t l → post (-102) m) (hF : trKn (m 67 4) x y (m 70) (m 71) → trOk d h t l → m 67 9 = 12 → post (-104) m) (h1 : trKn (m 67 4) x y (m 70) (m 71) → trOk d h t l → m 67 9 < 12 → post (m 67 9) (trMM m x y d h t l)) : wp_X11_train x y d h t l m post := by
  unfold trKn at hU hO hF h1
  unfold wp_X11_train wp_X11_train_25 wp_X11_train_21 wp_X11_train_26
  refine sp_isBlock (by omega) (fun a b => z1 ⟨fun c => z1 (bt c (sp_X11_train71 ht (hO ⟨a, b, Or.inl c⟩) (hF ⟨a, b, Or.inl c⟩) (h1 ⟨a, b, Or.inl c⟩))), fun c => sp_isBlock (by omega) (fun e f => z1 (z1 (bf c ⟨by omega, by omega, fun g => ?_, fun g => ⟨by omega, by omega, fun i => ?_, fun i => ?_⟩⟩))) (fun q => z0 (z0 (hU (fun z => by rcases z.2.2 with z | z <;> omega))))⟩) (fun q => z0 (z0 (hU (fun z => q ⟨z.1, z.2.1⟩))))
  · exact hU (fun z => by rcases z.2.2 with z | z; omega; exact g z.2.2.1.symm)
  · exact sp_X11_train71 ht (hO ⟨a, b, Or.inr ⟨e, f, g.symm, i.symm⟩⟩) (hF ⟨a, b, Or.inr ⟨e, f, g.symm, i.symm⟩⟩) (h1 ⟨a, b, Or.inr ⟨e, f, g.symm, i.symm⟩⟩)
  · exact hU (fun z => by rcases z.2.2 with z | z; omega; exact i z.2.2.2.symm)
