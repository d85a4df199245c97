/-! block -/
theorem pick_c {fr tk rk fr' tk' rk' : Int → Int} (a d : Int) : ∀ (k : Nat), (∀ i : Nat, i < k → fr' i = fr i ∧ tk' i = tk i ∧ rk' i = rk i) → (∀ i : Nat, i < k → -1 ≤ pick fr tk rk a d i ∧ pick fr tk rk a d i < i) → pick fr' tk' rk' a d k = pick fr tk rk a d k
  | 0, _, _ => rfl
  | k + 1, h, hp => by
    have ih := pick_c a d k (fun i hi => h i (by omega)) (fun i hi => hp i (by omega))
    have hk := h k (by omega)
    have hq := hp k (by omega)
    unfold pick
    rw [ih, hk.1, hk.2.1, hk.2.2]
    by_cases e : pick fr tk rk a d k = -1
    · rw [e]; simp only [true_or]
    · have e2 : rk' (pick fr tk rk a d k) = rk (pick fr tk rk a d k) := by
        have := (h (pick fr tk rk a d k).toNat (by omega)).2.2
        rw [show (((pick fr tk rk a d k).toNat : Nat) : Int) = pick fr tk rk a d k by omega] at this
        exact this
      rw [e2]
theorem bit_01 (x d : Int) : bit x d = 0 ∨ bit x d = 1 := by unfold bit; rw [and32_1]; omega
theorem sp_X0_add {a f t r : Int} {m : Mem} {post : Int → Mem → Prop} (hk : 0 ≤ m 6 0 ∧ m 6 0 < 20) (ha : 0 ≤ a ∧ a < 8) (hch : ∀ d : Int, 0 ≤ d → d < 8 → -1 ≤ m 11 (8 * a + d) ∧ m 11 (8 * a + d) < m 6 0)
    (h : ∀ m' : Mem, m' 7 = rset (m 7) (m 6 0) a → m' 8 = rset (m 8) (m 6 0) f → m' 9 = rset (m 9) (m 6 0) t → m' 10 = rset (m 10) (m 6 0) r → m' 6 0 = m 6 0 + 1 → (∀ d : Int, 0 ≤ d → d < 8 → m' 11 (8 * a + d) = if bit t d = 1 ∧ (m 11 (8 * a + d) = -1 ∨ m 10 (m 11 (8 * a + d)) < r) then m 6 0 else m 11 (8 * a + d)) → (∀ i : Int, ¬ (8 * a ≤ i ∧ i < 8 * a + 8) → m' 11 i = m 11 i) → (∀ c i : Int, ¬ ((7 ≤ c ∧ c ≤ 11) ∨ (c = 6 ∧ i = 0)) → m' c i = m c i) → post (m 6 0) m') : wp_X0_add a f t r m post := by
  unfold wp_X0_add
  refine eqm ⟨hk, eqm ⟨hk, eqm ⟨hk, eqm ⟨hk, eqm (eqm ⟨9, ?_⟩)⟩⟩⟩⟩
  generalize hB : mset (mset (mset (mset (mset m 7 (m 6 0) a) 8 (m 6 0) f) 9 (m 6 0) t) 10 (m 6 0) r) 6 0 (w32 (mset (mset (mset (mset m 7 (m 6 0) a) 8 (m 6 0) f) 9 (m 6 0) t) 10 (m 6 0) r 6 0 + 1)) = B
  have b7 : B 7 = rset (m 7) (m 6 0) a := by rw [← hB]; simp only [mset_r, mset_s, rset_at, reduceIte, Int.reduceEq, not_false_eq_true]
  have b8 : B 8 = rset (m 8) (m 6 0) f := by rw [← hB]; simp only [mset_r, mset_s, rset_at, reduceIte, Int.reduceEq, not_false_eq_true]
  have b9 : B 9 = rset (m 9) (m 6 0) t := by rw [← hB]; simp only [mset_r, mset_s, rset_at, reduceIte, Int.reduceEq, not_false_eq_true]
  have b10 : B 10 = rset (m 10) (m 6 0) r := by rw [← hB]; simp only [mset_r, mset_s, rset_at, reduceIte, Int.reduceEq, not_false_eq_true]
  have b11 : B 11 = m 11 := by rw [← hB]; simp only [mset_r, mset_s, rset_at, reduceIte, Int.reduceEq, not_false_eq_true]
  have b6 : B 6 0 = m 6 0 + 1 := by rw [← hB]; simp only [mset_r, mset_s, rset_at, reduceIte, Int.reduceEq, not_false_eq_true]; exact w32_i (by omega)
  have bo : ∀ c i : Int, ¬ ((7 ≤ c ∧ c ≤ 11) ∨ (c = 6 ∧ i = 0)) → B c i = m c i := fun c i q => by
    rw [← hB, mset_ne (by omega), mset_ne (by omega), mset_ne (by omega), mset_ne (by omega), mset_ne (by omega)]
  clear hB
  have key : ∀ (k : Nat) (d : Int) (m1 : Mem), d + k = 8 → 0 ≤ d → (∀ c i : Int, ¬ c = 11 → m1 c i = B c i) → (∀ d' : Int, 0 ≤ d' → d' < d → m1 11 (8 * a + d') = if bit t d' = 1 ∧ (m 11 (8 * a + d') = -1 ∨ m 10 (m 11 (8 * a + d')) < r) then m 6 0 else m 11 (8 * a + d')) → (∀ i : Int, ¬ (8 * a ≤ i ∧ i < 8 * a + d) → m1 11 i = m 11 i) → wp_X0_add_52 post (k + 1) a t (m 6 0) d m1 := by
    intro k
    induction k with
    | zero =>
      intro d m1 hd q0 q1 q2 q3
      unfold wp_X0_add_52
      have hr : ∀ c : Int, ¬ c = 11 → m1 c = B c := fun c hc => funext fun i => q1 c i hc
      refine bt (by omega) (h m1 (by rw [hr 7 (by decide), b7]) (by rw [hr 8 (by decide), b8]) (by rw [hr 9 (by decide), b9]) (by rw [hr 10 (by decide), b10]) (by rw [q1 6 0 (by decide), b6]) (fun d' e1 e2 => q2 d' e1 (by omega)) (fun i hi => q3 i (by omega)) (fun c i q => by rw [q1 c i (by omega), bo c i q]))
    | succ k ih =>
      intro d m1 hd q0 q1 q2 q3
      have e11 : m1 11 (8 * a + d) = m 11 (8 * a + d) := q3 _ (by omega)
      have hc := hch d q0 (by omega)
      have skip : ¬ (bit t d = 1 ∧ (m 11 (8 * a + d) = -1 ∨ m 10 (m 11 (8 * a + d)) < r)) → wp_X0_add_52 post (k + 1) a t (m 6 0) (d + 1) m1 := fun no => by
        refine ih (d + 1) m1 (by omega) (by omega) q1 (fun d' e1 e2 => ?_) (fun i hi => q3 i (by omega))
        by_cases hd' : d' = d
        · rw [hd', if_neg no]; exact e11
        · exact q2 d' e1 (by omega)
      have take : bit t d = 1 ∧ (m 11 (8 * a + d) = -1 ∨ m 10 (m 11 (8 * a + d)) < r) → wp_X0_add_52 post (k + 1) a t (m 6 0) (d + 1) (mset m1 11 (8 * a + d) (m 6 0)) := fun yes => by
        refine ih (d + 1) _ (by omega) (by omega) (fun c i hc => by rw [mset_ne (by omega)]; exact q1 c i hc) (fun d' e1 e2 => ?_) (fun i hi => by rw [mset_ne (by omega)]; exact q3 i (by omega))
        by_cases hd' : d' = d
        · rw [hd', if_pos yes, mset_same]
        · rw [mset_ne (by omega)]; exact q2 d' e1 (by omega)
      unfold wp_X0_add_52
      rw [w32_i (x := d + 1) (by omega)]
      refine bf (by omega) ⟨fun z => skip (fun w => ?_), fun z => ?_⟩
      · have := w.1; unfold bit at this; omega
      · have hb : bit t d = 1 := (bit_01 t d).resolve_left z
        unfold wp_X0_choose
        rw [ix8 ha.1 ha.2 q0 (by omega), e11]
        refine ⟨by omega, eqm ⟨fun e => ⟨by omega, eqm (take ⟨hb, Or.inl e⟩)⟩, fun e => ⟨hk, by omega, ?_⟩⟩⟩
        have g1 : m1 10 (m 6 0) = r := by rw [q1 10 _ (by decide), b10]; exact rset_eq rfl
        have g2 : m1 10 (m 11 (8 * a + d)) = m 10 (m 11 (8 * a + d)) := by rw [q1 10 _ (by decide), b10]; exact rset_ne (by omega)
        rw [g1, g2]
        exact ⟨fun q => skip (fun w => w.2.elim e (fun w => by omega)), fun q => ⟨by omega, eqm (take ⟨hb, Or.inr (by omega)⟩)⟩⟩
  exact key 8 0 B (by omega) (by omega) (fun _ _ _ => rfl) (fun d' e1 e2 => by omega) (fun i _ => by rw [b11])
