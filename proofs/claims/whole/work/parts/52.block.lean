/-! block -/
theorem pick_c {fr tk rk fr' tk' rk' : Int → Int} (a d : Int) : ∀ (k : Nat), (∀ i : Nat, i < k → fr' i = fr i ∧ tk' i = tk i ∧ rk' i = rk i) → (∀ i : Nat, i < k → -1 ≤ pick fr tk rk a d i ∧ pick fr tk rk a d i < i) → pick fr' tk' rk' a d k = pick fr tk rk a d k
  | 0, _, _ => rfl
  | k + 1, h, hp => by
    have ih := pick_c a d k (fun i hi => h i (by omega)) (fun i hi => hp i (by omega))
    have hk := h k (by omega)
    have hq := hp k (by omega)
    unfold pick
    rw [ih, hk.1, hk.2.1, hk.2.2]
    by_cases e : pick fr tk rk a d k = -1
    · rw [e]; simp only [true_or]
    · have e2 : rk' (pick fr tk rk a d k) = rk (pick fr tk rk a d k) := by
        have := (h (pick fr tk rk a d k).toNat (by omega)).2.2
        rw [show (((pick fr tk rk a d k).toNat : Nat) : Int) = pick fr tk rk a d k by omega] at this
        exact this
      rw [e2]
theorem bit_01 (x d : Int) : bit x d = 0 ∨ bit x d = 1 := by unfold bit; rw [and32_1]; omega
theorem sp_X0_add {a f t r : Int} {m : Mem} {post : Int → Mem → Prop} (hk : 0 ≤ m 6 0 ∧ m 6 0 < 20) (ha : 0 ≤ a ∧ a < 8) (hch : ∀ d : Int, 0 ≤ d → d < 8 → -1 ≤ m 11 (8 * a + d) ∧ m 11 (8 * a + d) < m 6 0)
    (h : ∀ m' : Mem, m' 7 = rset (m 7) (m 6 0) a → m' 8 = rset (m 8) (m 6 0) f → m' 9 = rset (m 9) (m 6 0) t → m' 10 = rset (m 10) (m 6 0) r → m' 6 0 = m 6 0 + 1 → (∀ d : Int, 0 ≤ d → d < 8 → m' 11 (8 * a + d) = if bit t d = 1 ∧ (m 11 (8 * a + d) = -1 ∨ m 10 (m 11 (8 * a + d)) < r) then m 6 0 else m 11 (8 * a + d)) → (∀ i : Int, ¬ (8 * a ≤ i ∧ i < 8 * a + 8) → m' 11 i = m 11 i) → (∀ c i : Int, ¬ ((7 ≤ c ∧ c ≤ 11) ∨ (c = 6 ∧ i = 0)) → m' c i = m c i) → post (m 6 0) m') : wp_X0_add a f t r m post := by
  unfold wp_X0_add
  refine eqm ⟨hk, eqm ⟨hk, eqm ⟨hk, eqm ⟨hk, eqm (eqm ⟨9, ?_⟩)⟩⟩⟩⟩
  generalize hB : mset (mset (mset (mset (mset m 7 (m 6 0) a) 8 (m 6 0) f) 9 (m 6 0) t) 10 (m 6 0) r) 6 0 (w32 (mset (mset (mset (mset m 7 (m 6 0) a) 8 (m 6 0) f) 9 (m 6 0) t) 10 (m 6 0) r 6 0 + 1)) = B
  have b7 : B 7 = rset (m 7) (m 6 0) a := by rw [← hB]; simp only [mset_r, mset_s, rset_at, reduceIte, Int.reduceEq, not_false_eq_true]
  have b8 : B 8 = rset (m 8) (m 6 0) f := by rw [← hB]; simp only [mset_r, mset_s, rset_at, reduceIte, Int.reduceEq, not_false_eq_true]
  have b9 : B 9 = rset (m 9) (m 6 0) t := by rw [← hB]; simp only [mset_r, mset_s, rset_at, reduceIte, Int.reduceEq, not_false_eq_true]
  have b10 : B 10 = rset (m 10) (m 6 0) r := by rw [← hB]; simp only [mset_r, mset_s, rset_at, reduceIte, Int.reduceEq, not_false_eq_true]
  have b11 : B 11 = m 11 := by rw [← hB]; simp only [mset_r, mset_s, rset_at, reduceIte, Int.reduceEq, not_false_eq_true]
  have b6 : B 6 0 = m 6 0 + 1 := by rw [← hB]; simp only [mset_r, mset_s, rset_at, reduceIte, Int.reduceEq, not_false_eq_true]; exact w32_i (by omega)
  have bo : ∀ c i : Int, ¬ ((7 ≤ c ∧ c ≤ 11) ∨ (c = 6 ∧ i = 0)) → B c i = m c i := fun c i q => by
    rw [← hB, mset_ne (by omega), mset_ne (by omega), mset_ne (by omega), mset_ne (by omega), mset_ne (by omega)]
  clear hB
  have key : ∀ (k : Nat) (d : Int) (m1 : Mem), d + k = 8 → 0 ≤ d → (∀ c i : Int, ¬ c = 11 → m1 c i = B c i) → (∀ d' : Int, 0 ≤ d' → d' < d → m1 11 (8 * a + d') = if bit t d' = 1 ∧ (m 11 (8 * a + d') = -1 ∨ m 10 (m 11 (8 * a + d')) < r) then m 6 0 else m 11 (8 * a + d')) → (∀ i : Int, ¬ (8 * a ≤ i ∧ i < 8 * a + d) → m1 11 i = m 11 i) → wp_X0_add_52 post (k + 1) a t (m 6 0) d m1 := by
    intro k
    induction k with
    | zero =>
      intro d m1 hd q0 q1 q2 q3
      unfold wp_X0_add_52
      have hr : ∀ c : Int, ¬ c = 11 → m1 c = B c := fun c hc => funext fun i => q1 c i hc
      refine bt (by omega) (h m1 (by rw [hr 7 (by decide), b7]) (by rw [hr 8 (by decide), b8]) (by rw [hr 9 (by decide), b9]) (by rw [hr 10 (by decide), b10]) (by rw [q1 6 0 (by decide), b6]) (fun d' e1 e2 => q2 d' e1 (by omega)) (fun i hi => q3 i (by omega)) (fun c i q => by rw [q1 c i (by omega), bo c i q]))
    | succ k ih =>
      intro d m1 hd q0 q1 q2 q3
      have e11 : m1 11 (8 * a + d) = m 11 (8 * a + d) := q3 _ (by omega)
      have hc := hch d q0 (by omega)
      have skip : ¬ (bit t d = 1 ∧ (m 11 (8 * a + d) = -1 ∨ m 10 (m 11 (8 * a + d)) < r)) → wp_X0_add_52 post (k + 1) a t (m 6 0) (d + 1) m1 := fun no => by
        refine ih (d + 1) m1 (by omega) (by omega) q1 (fun d' e1 e2 => ?_) (fun i hi => q3 i (by omega))
        by_cases hd' : d' = d
        · rw [hd', if_neg no]; exact e11
        · exact q2 d' e1 (by omega)
      have take : bit t d = 1 ∧ (m 11 (8 * a + d) = -1 ∨ m 10 (m 11 (8 * a + d)) < r) → wp_X0_add_52 post (k + 1) a t (m 6 0) (d + 1) (mset m1 11 (8 * a + d) (m 6 0)) := fun yes => by
        refine ih (d + 1) _ (by omega) (by omega) (fun c i hc => by rw [mset_ne (by omega)]; exact q1 c i hc) (fun d' e1 e2 => ?_) (fun i hi => by rw [mset_ne (by omega)]; exact q3 i (by omega))
        by_cases hd' : d' = d
        · rw [hd', if_pos yes, mset_same]
        · rw [mset_ne (by omega)]; exact q2 d' e1 (by omega)
      unfold wp_X0_add_52
      rw [w32_i (x := d + 1) (by omega)]
      refine bf (by omega) ⟨fun z => skip (fun w => ?_), fun z => ?_⟩
      · have := w.1; unfold bit at this; omega
      · have hb : bit t d = 1 := (bit_01 t d).resolve_left z
        unfold wp_X0_choose
        rw [ix8 ha.1 ha.2 q0 (by omega), e11]
        refine ⟨by omega, eqm ⟨fun e => ⟨by omega, eqm (take ⟨hb, Or.inl e⟩)⟩, fun e => ⟨hk, by omega, ?_⟩⟩⟩
        have g1 : m1 10 (m 6 0) = r := by rw [q1 10 _ (by decide), b10]; exact rset_eq rfl
        have g2 : m1 10 (m 11 (8 * a + d)) = m 10 (m 11 (8 * a + d)) := by rw [q1 10 _ (by decide), b10]; exact rset_ne (by omega)
        rw [g1, g2]
        exact ⟨fun q => skip (fun w => w.2.elim e (fun w => by omega)), fun q => ⟨by omega, eqm (take ⟨hb, Or.inr (by omega)⟩)⟩⟩
  exact key 8 0 B (by omega) (by omega) (fun _ _ _ => rfl) (fun d' e1 e2 => by omega) (fun i _ => by rw [b11])
theorem Rel.block {m m' : Mem} {a f t r : Int} (hR : Rel m) (hk : m 6 0 < 20) (ho : 0 ≤ a ∧ a < m 1 0 ∧ 0 ≤ f ∧ f < m 1 0 ∧ a ≠ f ∧ 0 ≤ t ∧ t < 256 ∧ 1 ≤ r ∧ r ≤ 9)
    (hv : ∀ c i : Int, ¬ (c = 4 ∨ c = 6 ∨ (7 ≤ c ∧ c ≤ 11) ∨ (c = 67 ∧ (i = 2 ∨ i = 4 ∨ 32 ≤ i)) ∨ (70 ≤ c ∧ c ≤ 73)) → m' c i = m c i)
    (p1 : m' 4 0 = 0) (p2 : m' 67 2 = 0) (p3 : m' 6 0 = m 6 0 + 1) (p4 : m' 67 4 = m 6 0 + 1) (p7 : m' 7 = rset (m 7) (m 6 0) a) (p8 : m' 8 = rset (m 8) (m 6 0) f) (p9 : m' 9 = rset (m 9) (m 6 0) t) (p10 : m' 10 = rset (m 10) (m 6 0) r)
    (p70 : m' 70 = rset (m 70) (m 6 0) a) (p71 : m' 71 = rset (m 71) (m 6 0) f) (p72 : m' 72 = rset (m 72) (m 6 0) t) (p73 : m' 73 = rset (m 73) (m 6 0) r)
    (p11 : ∀ d : Int, 0 ≤ d → d < 8 → m' 11 (8 * a + d) = if bit t d = 1 ∧ (m 11 (8 * a + d) = -1 ∨ m 10 (m 11 (8 * a + d)) < r) then m 6 0 else m 11 (8 * a + d)) (p12 : ∀ i : Int, ¬ (8 * a ≤ i ∧ i < 8 * a + 8) → m' 11 i = m 11 i) : Rel m' := by
  have hr : ∀ c : Int, (∀ i : Int, ¬ (c = 4 ∨ c = 6 ∨ (7 ≤ c ∧ c ≤ 11) ∨ (c = 67 ∧ (i = 2 ∨ i = 4 ∨ 32 ≤ i)) ∨ (70 ≤ c ∧ c ≤ 73))) → m' c = m c := fun c hc => funext fun i => hv c i (hc i)
  obtain ⟨h1, h2, h3, h4, h5, h6, h7, h8, h9, h10, h11⟩ := hR
  have g1 : RLand (m' 1 0) (m' 67 0) (m' 2) (m' 68) := by rw [hv 1 0 (by omega), hv 67 0 (by omega), hr 2 (fun i => by omega), hr 68 (fun i => by omega)]; exact h1
  have g5 : RTrf (m' 1 0) (m' 13 0) (m' 28 0) (m' 67 18) (m' 28 1) (m' 67 15) (m' 28 4) (m' 67 13) (m' 29) (m' 30) (m' 78) (m' 79) (m' 31) (m' 32) (m' 33) (m' 34) (m' 35) (m' 36) (m' 77) (m' 76) := by rw [hv 1 0 (by omega), hv 13 0 (by omega), hv 28 0 (by omega), hv 67 18 (by omega), hv 28 1 (by omega), hv 67 15 (by omega), hv 28 4 (by omega), hv 67 13 (by omega), hr 29 (fun i => by omega), hr 30 (fun i => by omega), hr 78 (fun i => by omega), hr 79 (fun i => by omega), hr 31 (fun i => by omega), hr 32 (fun i => by omega), hr 33 (fun i => by omega), hr 34 (fun i => by omega), hr 35 (fun i => by omega), hr 36 (fun i => by omega), hr 77 (fun i => by omega), hr 76 (fun i => by omega)]; exact h5
  have g6 : RRow (m' 37 0) (m' 67 20) (m' 40) (m' 80) := by rw [hv 37 0 (by omega), hv 67 20 (by omega), hr 40 (fun i => by omega), hr 80 (fun i => by omega)]; exact h6
  have g7 : RNet (m' 43 0) (m' 67 24) (m' 43 5) (m' 44) (m' 81) (m' 45) (m' 82) := by rw [hv 43 0 (by omega), hv 67 24 (by omega), hv 43 5 (by omega), hr 44 (fun i => by omega), hr 81 (fun i => by omega), hr 45 (fun i => by omega), hr 82 (fun i => by omega)]; exact h7
  have g8 : (m' 43 5) = 1 → (m' 1 0) ≤ 4 → NBr (m' 67 0) (m' 67 24) (m' 43 3) (m' 43 4) (m' 68) (m' 81) (m' 82) := by rw [hv 43 5 (by omega), hv 1 0 (by omega), hv 67 0 (by omega), hv 67 24 (by omega), hv 43 3 (by omega), hv 43 4 (by omega), hr 68 (fun i => by omega), hr 81 (fun i => by omega), hr 82 (fun i => by omega)]; exact h8
  have g9 : REmp (m' 47 0) (m' 67 25) (m' 48) (m' 83) := by rw [hv 47 0 (by omega), hv 67 25 (by omega), hr 48 (fun i => by omega), hr 83 (fun i => by omega)]; exact h9
  have g10 : RLeg (m' 59 0) (m' 67 27) (m' 60) (m' 61) (m' 84) (m' 85) := by rw [hv 59 0 (by omega), hv 67 27 (by omega), hr 60 (fun i => by omega), hr 61 (fun i => by omega), hr 84 (fun i => by omega), hr 85 (fun i => by omega)]; exact h10
  have g11 : RDet (m' 63 0) (m' 67 30) := by rw [hv 63 0 (by omega), hv 67 30 (by omega)]; exact h11
  refine ⟨g1, ⟨by omega, by omega, by omega, fun i i1 i2 => by omega⟩, ?_, ?_, g5, g6, g7, g8, g9, g10, g11⟩
  · obtain ⟨b1, b2, b3, b4, b5⟩ := h3
    have hn := h1.2.2.1
    clear h1 h2 h4 h5 h6 h7 h8 h9 h10 h11 g1 g5 g6 g7 g8 g9 g10 g11
    rw [hv 1 0 (by omega), p3, p4, p7, p8, p9, p10, p70, p71, p72, p73]
    refine ⟨rfl, by omega, by omega, fun i i1 i2 => ?_, fun a' d q1 q2 q3 q4 => ?_⟩
    · by_cases hi : i = m 6 0
      · rw [hi]
        simp only [rset_eq rfl]
        exact ⟨⟨trivial, trivial, trivial, trivial⟩, ho⟩
      · simp only [rset_ne hi]
        exact b4 i i1 (by omega)
    · rw [show (m 6 0 + 1).toNat = (m 6 0).toNat + 1 by omega]
      have hc : pick (rset (m 70) (m 6 0) a) (rset (m 72) (m 6 0) t) (rset (m 73) (m 6 0) r) a' d (m 6 0).toNat = m 11 (8 * a' + d) := by
        rw [b5 a' d q1 q2 q3 q4]
        refine pick_c a' d _ (fun i hi => ?_) (fun i hi => ?_)
        · have e : ¬ (i : Int) = m 6 0 := by omega
          exact ⟨rset_ne e, rset_ne e, rset_ne e⟩
        · have := pick_r (m 70) (m 72) (m 73) a' d i
          omega
      unfold pick
      rw [hc, show (((m 6 0).toNat : Nat) : Int) = m 6 0 by omega]
      rw [rset_eq rfl, rset_eq rfl, rset_eq rfl]
      by_cases ha : a = a'
      · subst ha
        rw [p11 d q3 q4]
        have hx : (m 11 (8 * a + d) = -1 ∨ m 10 (m 11 (8 * a + d)) < r) ↔ (m 11 (8 * a + d) = -1 ∨ rset (m 73) (m 6 0) r (m 11 (8 * a + d)) < r) := by
          by_cases e : m 11 (8 * a + d) = -1
          · exact ⟨fun _ => Or.inl e, fun _ => Or.inl e⟩
          · have hp := pick_r (m 70) (m 72) (m 73) a d (m 6 0).toNat
            rw [← b5 a d q1 q2 q3 q4] at hp
            have hb := (b4 (m 11 (8 * a + d)) (by omega) (by omega)).1.2.2.2
            rw [rset_ne (show ¬ m 11 (8 * a + d) = m 6 0 by omega), hb]
        by_cases w : bit t d = 1 ∧ (m 11 (8 * a + d) = -1 ∨ m 10 (m 11 (8 * a + d)) < r)
        · rw [if_pos w, if_pos ⟨rfl, w.1, hx.mp w.2⟩]
        · rw [if_neg w, if_neg (fun z => w ⟨z.2.1, hx.mpr z.2.2⟩)]
      · rw [if_neg (fun z => ha z.1)]
        exact p12 _ (by omega)
  · obtain ⟨b1, b2, b3, b4, b5⟩ := h3
    clear b4 b5 h1 h2 h5 h6 h7 h8 h9 h10 h11 g1 g5 g6 g7 g8 g9 g10 g11
    rw [hv 28 0 (by omega), hv 13 0 (by omega), hv 67 9 (by omega), hv 13 1 (by omega), hv 67 19 (by omega), hr 14 (fun i => by omega), hr 15 (fun i => by omega), hr 16 (fun i => by omega), hr 17 (fun i => by omega), hr 18 (fun i => by omega), hr 19 (fun i => by omega), hr 20 (fun i => by omega), hr 21 (fun i => by omega), hr 22 (fun i => by omega), hr 23 (fun i => by omega), hr 24 (fun i => by omega), hr 25 (fun i => by omega), hr 26 (fun i => by omega), hr 74 (fun i => by omega), hr 75 (fun i => by omega), hr 76 (fun i => by omega), p3, p7, p8]
    obtain ⟨c1, c2, c3, c4, c5, c6, c7⟩ := h4
    refine ⟨c1, c2, c3, c4, c5, c6, fun i i1 i2 => ?_⟩
    obtain ⟨d1, d2, d3, d4, d5, d6⟩ := c7 i i1 i2
    rw [rset_ne (show ¬ m 14 i = m 6 0 by omega), rset_ne (show ¬ m 14 i = m 6 0 by omega)]
    refine ⟨d1, ⟨by omega, by omega, ?_⟩, d3, d4, d5, d6⟩
    rcases d2.2.2 with z | z
    · exact Or.inl z
    · rw [rset_ne (show ¬ m 15 i = m 6 0 by omega), rset_ne (show ¬ m 15 i = m 6 0 by omega)]
      exact Or.inr ⟨z.1, by omega, z.2.2.1, z.2.2.2⟩
theorem op_block {m : Mem} (hR : Rel m) : wp_X10_block m (fun r m1 => wp_X11_block m1 (fun r2 m2 => r = r2 ∧ Rel m2)) := by
  obtain ⟨p1, p2, p3, p4⟩ := hR.2.1
  obtain ⟨n1', n2, n3⟩ := hR.n
  obtain ⟨b1, b2, b3, b4, b5⟩ := hR.2.2.1
  unfold wp_X10_block wp_X6_isWholeFor
  refine sp_readFor ⟨n2, n3⟩ ⟨p2, p3⟩ (fun i i1 i2 => (p4 i i1 i2).2) (fun k m1 a1 a2 a3 => ?_)
  have hst := run_ok n3 (m 5) k
  have s67 : m1 67 = m 67 := funext fun i => a3 67 i (by omega)
  have s69 : m1 69 = m 69 := funext fun i => a3 69 i (by omega)
  have mside : ∀ (m3 : Mem) (post : Int → Mem → Prop), m3 67 = m 67 → m3 69 = m 69 → (¬ (k = (m 4 0).toNat ∧ ((run (m 1 0) (m 5) k).1 = 5 ∨ (run (m 1 0) (m 5) k).1 = 7)) → (∀ m4 : Mem, (∀ c i : Int, ¬ (c = 67 ∧ 32 ≤ i) → m4 c i = m3 c i) → post (-103) m4)) →
      (k = (m 4 0).toNat ∧ ((run (m 1 0) (m 5) k).1 = 5 ∨ (run (m 1 0) (m 5) k).1 = 7) → m 6 0 = 20 → (∀ m4 : Mem, (∀ c i : Int, ¬ (c = 67 ∧ 32 ≤ i) → m4 c i = m3 c i) → post (-104) m4)) →
      (k = (m 4 0).toNat ∧ ((run (m 1 0) (m 5) k).1 = 5 ∨ (run (m 1 0) (m 5) k).1 = 7) → m 6 0 < 20 → (∀ m4 : Mem, (∀ c i : Int, ¬ ((c = 67 ∧ (32 ≤ i ∨ i = 2 ∨ i = 4)) ∨ (70 ≤ c ∧ c ≤ 73)) → m4 c i = m3 c i) → m4 67 2 = 0 → m4 67 4 = m 6 0 + 1 → m4 70 = rset (m3 70) (m 6 0) (run (m 1 0) (m 5) k).2.1 → m4 71 = rset (m3 71) (m 6 0) (run (m 1 0) (m 5) k).2.2.1 → m4 72 = rset (m3 72) (m 6 0) (run (m 1 0) (m 5) k).2.2.2.1 → m4 73 = rset (m3 73) (m 6 0) (run (m 1 0) (m 5) k).2.2.2.2 → post (m 6 0) m4)) → wp_X11_block m3 post := by
    intro m3 post f67 f69 q1 q2 q3
    unfold wp_X11_block
    refine sp_readBlock (n := m 1 0) (cd := m 5) ⟨n2, n3⟩ (by rw [f67]; exact n1') (by rw [f67]; omega) (by rw [f67, f69, p1]; exact p4) (fun l m2 c1 c2 c3 c4 c5 c6 => ?_)
    rw [f67, p1] at c1 c2 c4 c5
    have e := REnd_u a1 c1
    subst e
    have e4 : m2 67 4 = m 6 0 := by rw [c6 67 4 (by omega), f67, b1]
    by_cases w : k = (m 4 0).toNat ∧ ((run (m 1 0) (m 5) k).1 = 5 ∨ (run (m 1 0) (m 5) k).1 = 7)
    · rw [c4 w]
      refine n1 ?_
      have hs := c2 w.1
      unfold StM at hs
      rw [e4]
      by_cases h20 : m 6 0 = 20
      · exact nf h20 (q2 w h20 m2 c6)
      · refine nt h20 ⟨by omega, eqm ?_⟩
        simp only [mset_r, mset_s, rset_at, reduceIte, Int.reduceEq, not_false_eq_true]
        rw [e4]
        refine ⟨by omega, eqm ?_⟩
        simp only [mset_r, mset_s, rset_at, reduceIte, Int.reduceEq, not_false_eq_true]
        rw [e4]
        refine ⟨by omega, eqm ?_⟩
        simp only [mset_r, mset_s, rset_at, reduceIte, Int.reduceEq, not_false_eq_true]
        rw [e4]
        refine ⟨by omega, eqm ?_⟩
        refine eqm (eqm ?_)
        simp only [mset_r, mset_s, rset_at, reduceIte, Int.reduceEq, not_false_eq_true]
        rw [e4, w32_i (x := m 6 0 + 1) (by omega), show w32 (m 6 0 + 1 - 1) = m 6 0 by rw [w32_i (by omega)]; omega]
        have r7 : ∀ c : Int, ¬ c = 67 → m2 c = m3 c := fun c hc => funext fun i => c6 c i (by omega)
        refine q3 w (by omega) _ (fun c i q => ?_) ?_ ?_ ?_ ?_ ?_ ?_
        · rw [mset_ne (by omega), mset_ne (by omega), mset_ne (by omega), mset_ne (by omega), mset_ne (by omega), mset_ne (by omega)]
          exact c6 c i (by omega)
        · simp only [mset_r, mset_s, rset_at, reduceIte, Int.reduceEq, not_false_eq_true]
        · simp only [mset_r, mset_s, rset_at, reduceIte, Int.reduceEq, not_false_eq_true]
        · simp only [mset_r, mset_s, rset_at, reduceIte, Int.reduceEq, not_false_eq_true]
          rw [r7 70 (by decide), hs.1 (by omega)]
        · simp only [mset_r, mset_s, rset_at, reduceIte, Int.reduceEq, not_false_eq_true]
          rw [r7 71 (by decide), hs.2.1 (by omega)]
        · simp only [mset_r, mset_s, rset_at, reduceIte, Int.reduceEq, not_false_eq_true]
          rw [r7 72 (by decide), hs.2.2.1]
        · simp only [mset_r, mset_s, rset_at, reduceIte, Int.reduceEq, not_false_eq_true]
          rw [r7 73 (by decide), hs.2.2.2]
    · rw [c5 w]
      exact n0 (q1 w m2 c6)
  have bad : ¬ (k = (m 4 0).toNat ∧ ((run (m 1 0) (m 5) k).1 = 5 ∨ (run (m 1 0) (m 5) k).1 = 7)) → wp_X11_block m1 (fun r2 m2 => -103 = r2 ∧ Rel m2) := fun w => by
    refine mside m1 _ s67 s69 (fun _ m4 u => ⟨rfl, Rel.frame (fun c i q => ?_) hR⟩) (fun z => absurd z w) (fun z => absurd z w)
    unfold Scr at q
    rw [u c i (by omega), a3 c i (by omega)]
  have hk0 := a1.1
  have e40 : m1 4 0 = m 4 0 := a3 4 0 (by omega)
  have e60 : m1 6 0 = m 6 0 := a3 6 0 (by omega)
  have yes : k = (m 4 0).toNat ∧ ((run (m 1 0) (m 5) k).1 = 5 ∨ (run (m 1 0) (m 5) k).1 = 7) → (m1 6 0 < 20 → wp_X0_add (m1 4 1) (m1 4 2) (m1 4 3) (m1 4 4) m1 (fun r67 m67 => ∀ m76 : Mem, m76 = mset m67 4 0 0 → wp_X11_block m76 (fun r2 m2 => r67 = r2 ∧ Rel m2))) ∧ (¬ m1 6 0 < 20 → wp_X11_block m1 (fun r2 m2 => -104 = r2 ∧ Rel m2)) := fun w => by
    have hs := a2 w.1
    unfold StC at hs
    unfold StOk at hst
    have hs1 := hs.2.1 (by omega)
    have hs2 := hs.2.2.1 (by omega)
    have ho1 := hst.2.2.1 (by omega)
    have ho2 := hst.2.2.2.1 (by omega)
    rw [hs1, hs2, hs.2.2.2.1, hs.2.2.2.2, e60]
    refine ⟨fun q => ?_, fun q => ?_⟩
    · have c11 : m1 11 = m 11 := funext fun i => a3 11 i (by omega)
      refine sp_X0_add (by omega) ⟨ho1.1, by omega⟩ (fun d d1 d2 => ?_) (fun m2 u7 u8 u9 u10 u6 u11 u12 uo => eqm ?_)
      · have hp := pick_r (m 70) (m 72) (m 73) (run (m 1 0) (m 5) k).2.1 d (m 6 0).toNat
        rw [← b5 _ d ho1.1 (by omega) d1 d2] at hp
        rw [c11, e60]
        omega
      · rw [e60] at u7 u8 u9 u10 u6 u11 ⊢
        have r7 : ∀ c : Int, 12 ≤ c → mset m2 4 0 0 c = m c := fun c hc => funext fun i => by rw [mset_ne (by omega), uo c i (by omega), a3 c i (by omega)]
        refine mside _ _ (r7 67 (by decide)) (r7 69 (by decide)) (fun z => absurd w z) (fun _ z => by omega) (fun _ _ m4 v1 v2 v3 v4 v5 v6 v7 => ⟨rfl, ?_⟩)
        rw [r7 70 (by decide)] at v4
        rw [r7 71 (by decide)] at v5
        rw [r7 72 (by decide)] at v6
        rw [r7 73 (by decide)] at v7
        have rr : ∀ c : Int, 7 ≤ c → c ≤ 11 → m4 c = m2 c := fun c hc hc2 => funext fun i => by rw [v1 c i (by omega), mset_ne (by omega)]
        have m1c : ∀ c : Int, 7 ≤ c → c ≤ 11 → m1 c = m c := fun c hc hc2 => funext fun i => a3 c i (by omega)
        rw [m1c 7 (by decide) (by decide)] at u7
        rw [m1c 8 (by decide) (by decide)] at u8
        rw [m1c 9 (by decide) (by decide)] at u9
        rw [m1c 10 (by decide) (by decide)] at u10 u11
        rw [m1c 11 (by decide) (by decide)] at u11 u12
        refine Rel.block hR q ⟨ho1.1, ho1.2, ho2.1, ho2.2.1, ho2.2.2, hst.2.2.2.2⟩ (fun c i z => ?_) ?_ v2 ?_ v3 (by rw [rr 7 (by decide) (by decide)]; exact u7) (by rw [rr 8 (by decide) (by decide)]; exact u8) (by rw [rr 9 (by decide) (by decide)]; exact u9) (by rw [rr 10 (by decide) (by decide)]; exact u10) v4 v5 v6 v7 (by rw [rr 11 (by decide) (by decide)]; exact u11) (by rw [rr 11 (by decide) (by decide)]; exact u12)
        · rw [v1 c i (by omega), mset_ne (by omega), uo c i (by omega), a3 c i (by omega)]
        · rw [v1 4 0 (by omega), mset_same]
        · rw [v1 6 0 (by omega), mset_ne (by omega)]; exact u6
    · refine mside m1 _ s67 s69 (fun z => absurd w z) (fun _ _ m4 u => ⟨rfl, Rel.frame (fun c i z => ?_) hR⟩) (fun _ z => absurd z q)
      unfold Scr at z
      rw [u c i (by omega), a3 c i (by omega)]
  rw [e40]
  refine ⟨fun q => n0 (bad (fun w => by omega)), fun q => ?_⟩
  have hk : k = (m 4 0).toNat := by omega
  have e45 : m1 4 5 = (run (m 1 0) (m 5) k).1 := (a2 hk).1
  rw [e45]
  exact ⟨fun q1 => n1 (yes ⟨hk, Or.inl q1⟩), fun q1 => ⟨fun q2 => n0 (bad (fun w => w.2.elim q1 q2)), fun q2 => n1 (yes ⟨hk, Or.inr q2⟩)⟩⟩
