/-! train, closed; the beginning -/
theorem trKn_iff {k x y : Int} {fr to fr' to' : Int → Int} (h : ∀ i : Int, 0 ≤ i → i < k → fr' i = fr i ∧ to' i = to i) : trKn k x y fr' to' ↔ trKn k x y fr to := by
  unfold trKn
  constructor
  · rintro ⟨a, b, c⟩
    refine ⟨a, b, c.elim Or.inl (fun c => Or.inr ?_)⟩
    have h1 := h x a b
    have h2 := h y c.1 c.2.1
    rw [← h1.1, ← h1.2, ← h2.1, ← h2.2]
    exact c
  · rintro ⟨a, b, c⟩
    refine ⟨a, b, c.elim Or.inl (fun c => Or.inr ?_)⟩
    have h1 := h x a b
    have h2 := h y c.1 c.2.1
    rw [h1.1, h1.2, h2.1, h2.2]
    exact c
def ch6 (f : Int → Int) (t x y d h k l : Int) : Int → Int := rset (rset (rset (rset (rset (rset f (6 * t) x) (6 * t + 1) y) (6 * t + 2) d) (6 * t + 3) h) (6 * t + 4) k) (6 * t + 5) l
def ch3 (f : Int → Int) (t : Int) : Int → Int := rset (rset (rset f (3 * t) 0) (3 * t + 1) 0) (3 * t + 2) 0
def ch4 (f : Int → Int) (t : Int) : Int → Int := rset (rset (rset (rset f (4 * t) (-1)) (4 * t + 1) (-1)) (4 * t + 2) (-1)) (4 * t + 3) (-1)
theorem ch6_eq (f : Int → Int) (t x y d h k l : Int) : ch6 f t x y d h k l (6 * t) = x ∧ ch6 f t x y d h k l (6 * t + 1) = y ∧ ch6 f t x y d h k l (6 * t + 2) = d ∧ ch6 f t x y d h k l (6 * t + 3) = h ∧ ch6 f t x y d h k l (6 * t + 4) = k ∧ ch6 f t x y d h k l (6 * t + 5) = l := by
  unfold ch6
  simp (disch := omega) only [rset_eq, rset_ne]
  exact ⟨trivial, trivial, trivial, trivial, trivial, trivial⟩
theorem ch6_ne (f : Int → Int) {t i : Int} (hi : i ≠ t) (x y d h k l : Int) {j : Int} (h1 : 0 ≤ j) (h2 : j < 6) : ch6 f t x y d h k l (6 * i + j) = f (6 * i + j) := by
  unfold ch6
  simp (disch := omega) only [rset_eq, rset_ne]
theorem ch3_eq (f : Int → Int) (t : Int) : ch3 f t (3 * t) = 0 ∧ ch3 f t (3 * t + 1) = 0 ∧ ch3 f t (3 * t + 2) = 0 := by
  unfold ch3
  simp (disch := omega) only [rset_eq, rset_ne]
  exact ⟨trivial, trivial, trivial⟩
theorem ch3_ne (f : Int → Int) {t i : Int} (hi : i ≠ t) {j : Int} (h1 : 0 ≤ j) (h2 : j < 3) : ch3 f t (3 * i + j) = f (3 * i + j) := by
  unfold ch3
  simp (disch := omega) only [rset_eq, rset_ne]
theorem ch4_eq (f : Int → Int) (t : Int) {j : Int} (h1 : 0 ≤ j) (h2 : j < 4) : ch4 f t (4 * t + j) = -1 := by
  unfold ch4
  rcases (show j = 0 ∨ j = 1 ∨ j = 2 ∨ j = 3 by omega) with rfl | rfl | rfl | rfl <;> simp (disch := omega) only [rset_eq, rset_ne]
theorem ch4_ne (f : Int → Int) {t i : Int} (hi : i ≠ t) {j : Int} (h1 : 0 ≤ j) (h2 : j < 4) : ch4 f t (4 * i + j) = f (4 * i + j) := by
  unfold ch4
  simp (disch := omega) only [rset_eq, rset_ne]
theorem op_train {m : Mem} (hR : Rel m) (x y d h t l : Int) : wp_X10_train x y d h t l m (fun r m1 => wp_X11_train x y d h t l m1 (fun r2 m2 => r = r2 ∧ Rel m2)) := by
  obtain ⟨h1, h2, h3, h4, h5, h6, h7, h8, h9, h10, h11⟩ := id hR
  obtain ⟨b1, b2, b3, b4, b5⟩ := id h3
  obtain ⟨c1, c2, c3, c4, c5, c6, c7⟩ := id h4
  obtain ⟨e1, e2, e3, e4, e5, e6, e7, e8, e9, e10, e11⟩ := id h5
  have hiff : trKn (m 67 4) x y (m 70) (m 71) ↔ trKn (m 6 0) x y (m 7) (m 8) := by
    rw [b1]
    exact trKn_iff (fun i i1 i2 => ⟨(b4 i i1 i2).1.1, (b4 i i1 i2).1.2.1⟩)
  refine sp_X10_train ⟨b2, b3⟩ ⟨c2, c3⟩ (fun q => sp_X11_train (by omega) (by omega) (fun _ => ⟨rfl, hR⟩) (fun z => absurd (hiff.mp z) q) (fun z => absurd (hiff.mp z) q) (fun z => absurd (hiff.mp z) q))
    (fun k q => sp_X11_train (by omega) (by omega) (fun z => absurd (hiff.mpr k) z) (fun _ _ => ⟨rfl, hR⟩) (fun _ z => absurd z q) (fun _ z => absurd z q))
    (fun k o f => sp_X11_train (by omega) (by omega) (fun z => absurd (hiff.mpr k) z) (fun _ z => absurd o z) (fun _ _ _ => ⟨rfl, hR⟩) (fun _ _ z => by omega)) (fun k o f => ?_)
  have q4 : trMC m x y d h t l 67 4 = m 67 4 := by unfold trMC; simp only [mset_r, mset_s, rset_at, reduceIte, Int.reduceEq, not_false_eq_true]
  have q9 : trMC m x y d h t l 67 9 = m 67 9 := by unfold trMC; simp only [mset_r, mset_s, rset_at, reduceIte, Int.reduceEq, not_false_eq_true]
  have q70 : trMC m x y d h t l 70 = m 70 := by unfold trMC; simp only [mset_r, mset_s, rset_at, reduceIte, Int.reduceEq, not_false_eq_true]
  have q71 : trMC m x y d h t l 71 = m 71 := by unfold trMC; simp only [mset_r, mset_s, rset_at, reduceIte, Int.reduceEq, not_false_eq_true]
  refine sp_X11_train (by rw [q4]; omega) (by rw [q9]; omega) (fun z => absurd (by rw [q4, q70, q71]; exact hiff.mpr k) z) (fun _ z => absurd o z) (fun _ _ z => by rw [q9] at z; omega) (fun _ _ _ => ⟨by rw [q9, c1], ?_⟩)
  unfold trKn at k
  unfold trOk at o
  unfold trMM trMC Rel
  simp only [mset_r, mset_s, rset_at, reduceIte, Int.reduceEq, not_false_eq_true]
  refine ⟨h1, h2, h3, ⟨by omega, by omega, by omega, c4, c5, c6, fun i i1 i2 => ?_⟩, ⟨e1, e2, e3, e4, e5, e6, e7, e8, e9, e10, fun i i1 i2 => ⟨(e11 i i1 i2).1, ?_⟩⟩, h6, h7, h8, h9, h10, h11⟩
  · have hc := c7 i i1
    rw [c1]
    show (ch6 (m 74) (m 13 0) x y d h t l (6 * i) = _ ∧ ch6 (m 74) (m 13 0) x y d h t l (6 * i + 1) = _ ∧ ch6 (m 74) (m 13 0) x y d h t l (6 * i + 2) = _ ∧ ch6 (m 74) (m 13 0) x y d h t l (6 * i + 3) = _ ∧ ch6 (m 74) (m 13 0) x y d h t l (6 * i + 4) = _ ∧ ch6 (m 74) (m 13 0) x y d h t l (6 * i + 5) = _) ∧ _ ∧ _ ∧ _ ∧ (ch3 (m 75) (m 13 0) (3 * i) = _ ∧ ch3 (m 75) (m 13 0) (3 * i + 1) = _ ∧ ch3 (m 75) (m 13 0) (3 * i + 2) = _) ∧ RRun _ _ _ _ _ (fun q => ch4 (m 76) (m 13 0) (4 * i + q))
    by_cases hi : i = m 13 0
    · subst hi
      simp only [rset_eq rfl]
      refine ⟨ch6_eq _ _ _ _ _ _ _ _, ⟨k.1, k.2.1, ?_⟩, ⟨trivial, trivial, (by unfold r32; omega)⟩, o, ch3_eq _ _, ?_⟩
      · rcases k.2.2 with z | z
        · exact Or.inl z
        · exact Or.inr ⟨z.1, z.2.1, z.2.2.1.symm, z.2.2.2.symm⟩
      · clear hc
        refine ⟨by omega, Or.inr ⟨rfl, rfl⟩, Or.inl rfl, Or.inl rfl, fun v hv => ?_, ?_⟩
        · unfold cnt4
          have g0 := ch4_eq (m 76) (m 13 0) (j := 0) (by decide) (by decide)
          have g1 := ch4_eq (m 76) (m 13 0) (j := 1) (by decide) (by decide)
          have g2 := ch4_eq (m 76) (m 13 0) (j := 2) (by decide) (by decide)
          have g3 := ch4_eq (m 76) (m 13 0) (j := 3) (by decide) (by decide)
          have hv' : ¬ (-1 : Int) = v := fun z => hv z.symm
          simp only [g0, g1, g2, g3, if_neg hv']
          first | rfl | (rw [if_neg (fun z => by omega)]; rfl) | simp
        · unfold cnt4
          have g0 := ch4_eq (m 76) (m 13 0) (j := 0) (by decide) (by decide)
          have g1 := ch4_eq (m 76) (m 13 0) (j := 1) (by decide) (by decide)
          have g2 := ch4_eq (m 76) (m 13 0) (j := 2) (by decide) (by decide)
          have g3 := ch4_eq (m 76) (m 13 0) (j := 3) (by decide) (by decide)
          have hn : ¬ m 28 0 ≤ -1000 + t := by clear hR h1 h2 h3 h4 h5 h6 h7 h8 h9 h10 h11 b4 b5 c7 e7 e11 hiff; omega
          simp only [g0, g1, g2, g3, if_neg hn]
          rfl
    · have hc := hc (by omega)
      have e6 : ∀ j : Int, 0 ≤ j → j < 6 → ch6 (m 74) (m 13 0) x y d h t l (6 * i + j) = m 74 (6 * i + j) := fun j j1 j2 => ch6_ne _ hi _ _ _ _ _ _ j1 j2
      have e60 : ch6 (m 74) (m 13 0) x y d h t l (6 * i) = m 74 (6 * i) := by have := e6 0 (by decide) (by decide); rw [Int.add_zero] at this; exact this
      have e30 : ch3 (m 75) (m 13 0) (3 * i) = m 75 (3 * i) := by have := ch3_ne (m 75) hi (j := 0) (by decide) (by decide); rw [Int.add_zero] at this; exact this
      simp only [rset_ne hi]
      rw [e60, e6 1 (by decide) (by decide), e6 2 (by decide) (by decide), e6 3 (by decide) (by decide), e6 4 (by decide) (by decide), e6 5 (by decide) (by decide), e30, ch3_ne _ hi (by decide) (by decide), ch3_ne _ hi (by decide) (by decide)]
      refine ⟨hc.1, hc.2.1, hc.2.2.1, hc.2.2.2.1, hc.2.2.2.2.1, ?_⟩
      have hr := hc.2.2.2.2.2
      unfold RRun cnt4 at hr ⊢
      have g0 := ch4_ne (m 76) hi (j := 0) (by decide) (by decide)
      have g1 := ch4_ne (m 76) hi (j := 1) (by decide) (by decide)
      have g2 := ch4_ne (m 76) hi (j := 2) (by decide) (by decide)
      have g3 := ch4_ne (m 76) hi (j := 3) (by decide) (by decide)
      simp only [g0, g1, g2, g3]
      exact hr
  · have hw := (e11 i i1 i2).2
    rw [c1]
    show RWag _ _ _ _ _ _ _ _ (ch4 (m 76) (m 13 0)) i
    unfold RWag at hw ⊢
    refine ⟨hw.1, hw.2.1, hw.2.2.1, hw.2.2.2.1, ?_⟩
    rcases hw.2.2.2.2 with z | z | z
    · exact Or.inl z
    · obtain ⟨z1, z2, z3, z4, z5, q, z6, z7, z8⟩ := z
      refine Or.inr (Or.inl ⟨z1, z2, by omega, z4, z5, q, z6, z7, ?_⟩)
      rw [ch4_ne _ (by omega) z6 z7]
      exact z8
    · exact Or.inr (Or.inr z)
def begC (m : Mem) (n : Int) : Mem := mset (mset (mfill (mset (mset (mfill (mfill (mset (mset (mfill (mfill (mset (mset (mset (mset (mset (mfill (mset (mset (mset (mfill (mset m 1 0 n) 2 0 64 10) 4 0 0) 6 0 0) 6 7 0) 11 0 64 (-1)) 13 0 0) 13 1 8) 28 0 0) 28 1 2) 28 4 0) 29 0 8 (-1)) 30 0 8 (-1)) 37 0 0) 43 0 20) 44 0 64 0) 45 0 8 2) 43 5 0) 47 0 5) 48 0 24 0) 59 0 0) 63 0 0
theorem sp_X10_begin {n : Int} {m : Mem} {post : Mem → Prop} (h : post (begC m n)) : wp_X10_begin n m post := by
  unfold wp_X10_begin wp_X3_begin wp_X0_begin wp_X8_begin wp_X9_begin wp_X5_begin wp_X2_begin wp_X5_forget
  refine eqm (sp_fill (N := 64) rfl (by decide) (by decide) ?_)
  refine eqm (eqm (eqm (sp_fill (N := 64) rfl (by decide) (by decide) ?_)))
  refine eqm (eqm (eqm (eqm (eqm (sp_fill (N := 8) rfl (by decide) (by decide) ?_)))))
  refine sp_fill (N := 8) rfl (by decide) (by decide) ?_
  refine eqm (eqm (sp_fill (N := 64) rfl (by decide) (by decide) ?_))
  refine sp_fill (N := 8) rfl (by decide) (by decide) ?_
  refine eqm (eqm (sp_fill (N := 24) rfl (by decide) (by decide) ?_))
  exact eqm (eqm h)
/-- the reference at its beginning, told place by place -/
def BegM (m m' : Mem) (n : Int) : Prop := m' 67 0 = n ∧ m' 67 2 = 0 ∧ m' 67 4 = 0 ∧ m' 67 9 = 0 ∧ m' 67 13 = 0 ∧ m' 67 15 = 2 ∧ m' 67 18 = 0 ∧ m' 67 19 = 8 ∧ m' 67 20 = 0 ∧ m' 67 24 = 20 ∧ m' 67 25 = 5 ∧ m' 67 27 = 0 ∧ m' 67 30 = 0 ∧ (∀ i : Int, 0 ≤ i → i < 64 → m' 68 i = (if i / 8 = i % 8 then 0 else 10) ∧ m' 81 i = 0) ∧ (∀ y : Int, 0 ≤ y → y < 8 → m' 78 y = -1 ∧ m' 79 y = -1 ∧ m' 82 y = 2) ∧ (∀ i : Int, 0 ≤ i → i < 24 → m' 83 i = 0) ∧ ∀ c : Int, c < 67 → m' c = m c
theorem sp_X11_begin {n : Int} {m : Mem} {post : Mem → Prop} (h : ∀ m' : Mem, BegM m m' n → post m') : wp_X11_begin n m post := by
  unfold wp_X11_begin
  refine eqm ?_
  have l3 : ∀ (k : Nat) (i : Int) (m' : Mem) (K : Mem → Prop), 0 ≤ i → i + k = 24 → (∀ m'' : Mem, (∀ j : Int, i ≤ j → j < 24 → m'' 83 j = 0) → (∀ c j : Int, ¬ (c = 83 ∧ i ≤ j ∧ j < 24) → m'' c j = m' c j) → K m'') → wp_X11_begin_86 K post (k + 1) i m' := by
    intro k
    induction k with
    | zero => intro i m' K h0 hk hK; unfold wp_X11_begin_86; exact bt (by omega) (hK m' (fun j a b => by omega) (fun c j _ => rfl))
    | succ k ih =>
      intro i m' K h0 hk hK
      unfold wp_X11_begin_86
      refine bf (by omega) ⟨by omega, eqm ?_⟩
      rw [w32_i (by omega)]
      refine ih (i + 1) _ K (by omega) (by omega) (fun m'' a b => hK m'' (fun j j1 j2 => ?_) (fun c j q => ?_))
      · by_cases hj : j = i
        · subst hj; rw [b 83 j (by omega), mset_same]
        · exact a j (by omega) j2
      · rw [b c j (by omega)]
        exact mset_ne (by omega)
  have l2 : ∀ (k : Nat) (i : Int) (m' : Mem) (K : Int → Mem → Prop), 0 ≤ i → i + k = 8 → (∀ m'' : Mem, (∀ j : Int, i ≤ j → j < 8 → m'' 78 j = -1 ∧ m'' 79 j = -1 ∧ m'' 82 j = 2) → (∀ c j : Int, ¬ ((c = 78 ∨ c = 79 ∨ c = 82) ∧ i ≤ j ∧ j < 8) → m'' c j = m' c j) → K 0 m'') → wp_X11_begin_51 K post (k + 1) i m' := by
    intro k
    induction k with
    | zero => intro i m' K h0 hk hK; unfold wp_X11_begin_51; exact bt (by omega) (hK m' (fun j a b => by omega) (fun c j _ => rfl))
    | succ k ih =>
      intro i m' K h0 hk hK
      unfold wp_X11_begin_51
      refine bf (by omega) ⟨by omega, eqm ⟨by omega, eqm ⟨by omega, eqm ?_⟩⟩⟩
      rw [w32_i (by omega)]
      refine ih (i + 1) _ K (by omega) (by omega) (fun m'' a b => hK m'' (fun j j1 j2 => ?_) (fun c j q => ?_))
      · by_cases hj : j = i
        · subst hj
          rw [b 78 j (by omega), b 79 j (by omega), b 82 j (by omega)]
          simp only [mset_r, mset_s, rset_at, reduceIte, Int.reduceEq, not_false_eq_true]
          exact ⟨trivial, trivial, trivial⟩
        · exact a j (by omega) j2
      · rw [b c j (by omega), mset_ne (by omega), mset_ne (by omega), mset_ne (by omega)]
  have l1 : ∀ (k : Nat) (i : Int) (m' : Mem) (K : Int → Mem → Prop), 0 ≤ i → i + k = 64 → (∀ m'' : Mem, (∀ j : Int, i ≤ j → j < 64 → m'' 68 j = (if j / 8 = j % 8 then 0 else 10) ∧ m'' 81 j = 0) → (∀ c j : Int, ¬ ((c = 68 ∨ c = 81) ∧ i ≤ j ∧ j < 64) → m'' c j = m' c j) → K 0 m'') → wp_X11_begin_7 K post (k + 1) i m' := by
    intro k
    induction k with
    | zero => intro i m' K h0 hk hK; unfold wp_X11_begin_7; exact bt (by omega) (hK m' (fun j a b => by omega) (fun c j _ => rfl))
    | succ k ih =>
      intro i m' K h0 hk hK
      have nxt : ∀ v : Int, v = (if i / 8 = i % 8 then 0 else 10) → wp_X11_begin_35 i v i m' (fun v2_1 m_1 => wp_X11_begin_7 K post (k + 1) v2_1 m_1) post := by
        intro v hv
        unfold wp_X11_begin_35
        refine ⟨by omega, eqm ⟨by omega, eqm ?_⟩⟩
        rw [w32_i (by omega)]
        refine ih (i + 1) _ K (by omega) (by omega) (fun m'' a b => hK m'' (fun j j1 j2 => ?_) (fun c j q => ?_))
        · by_cases hj : j = i
          · subst hj
            rw [b 68 j (by omega), b 81 j (by omega)]
            simp only [mset_r, mset_s, rset_at, reduceIte, Int.reduceEq, not_false_eq_true]
            exact ⟨hv, trivial⟩
          · exact a j (by omega) j2
        · rw [b c j (by omega), mset_ne (by omega), mset_ne (by omega)]
      have ed : Int.tdiv i 8 = i / 8 := Int.tdiv_eq_ediv_of_nonneg h0
      have em : Int.tmod i 8 = i % 8 := Int.tmod_eq_emod_of_nonneg h0
      unfold wp_X11_begin_7
      rw [ed, em, w32_i (x := i / 8) (by omega)]
      refine bf (by omega) ?_
      by_cases c : i / 8 = i % 8
      · exact nf c (nxt 0 (by rw [if_pos c]))
      · exact nt c (nxt 10 (by rw [if_neg c]))
  refine ⟨65, l1 64 0 _ _ (by omega) (by omega) (fun m1 a1 b1 => ⟨9, l2 8 0 _ _ (by omega) (by omega) (fun m2 a2 b2 => ⟨25, l3 24 0 _ _ (by omega) (by omega) (fun m3 a3 b3 => ?_)⟩)⟩)⟩
  refine eqm (eqm (eqm (eqm (eqm (eqm (eqm (eqm (eqm (eqm (eqm (eqm (h _ ?_))))))))))))
  unfold BegM
  simp only [mset_r, mset_s, rset_at, reduceIte, Int.reduceEq, not_false_eq_true]
  refine ⟨?_, trivial, trivial, trivial, trivial, trivial, trivial, trivial, trivial, trivial, trivial, trivial, trivial, fun i i1 i2 => ?_, fun y y1 y2 => ?_, a3, fun c hc => ?_⟩
  · rw [b3 67 0 (by omega), b2 67 0 (by omega), b1 67 0 (by omega)]
    exact mset_same _ _ _ _
  · rw [b3 68 i (by omega), b2 68 i (by omega), b3 81 i (by omega), b2 81 i (by omega)]
    exact a1 i i1 i2
  · rw [b3 78 y (by omega), b3 79 y (by omega), b3 82 y (by omega)]
    exact a2 y y1 y2
  · have hn : ¬ c = 67 := by omega
    rw [mset_r hn, mset_r hn, mset_r hn, mset_r hn, mset_r hn, mset_r hn, mset_r hn, mset_r hn, mset_r hn, mset_r hn, mset_r hn, mset_r hn]
    funext j
    rw [b3 c j (by omega), b2 c j (by omega), b1 c j (by omega), mset_ne (by omega)]
