/-! an hour: what comes in -/
def ccond (T : Int) (c : Mem) (i : Int) : Prop := ¬ c 33 i = -1 ∧ c 34 i = T
def ciW (m : Mem) (T : Int) (c c' : Mem) (i : Int) : Prop := (¬ ccond T c i → c' 31 i = c 31 i ∧ c' 33 i = c 33 i ∧ c' 34 i = c 34 i ∧ c' 36 i = c 36 i) ∧ (ccond T c i → c' 33 i = -1 ∧ (m 32 i = m 17 (c 33 i) → c' 31 i = c 31 i ∧ c' 34 i = c 34 i ∧ c' 36 i = 1) ∧ (¬ m 32 i = m 17 (c 33 i) → c' 31 i = m 17 (c 33 i) ∧ c' 34 i = T + m 28 1 ∧ c' 36 i = c 36 i))
theorem ciW_c {m : Mem} {T : Int} {c d c' : Mem} {i : Int} (h : ciW m T c c' i) (e31 : d 31 i = c 31 i) (e33 : d 33 i = c 33 i) (e34 : d 34 i = c 34 i) (e36 : d 36 i = c 36 i) : ciW m T d c' i := by
  unfold ciW ccond at h ⊢
  rw [e31, e33, e34, e36]
  exact h
theorem come_C {m : Mem} {T : Int} (hT : 0 ≤ T ∧ T < 2000) (hso : 0 ≤ m 28 1 ∧ m 28 1 ≤ 12) {nw : Nat} (hnw : m 28 4 = nw) (hnw30 : nw ≤ 30) : ∀ (rem w : Nat) (c : Mem), w + rem = nw → CS m c → c 28 0 = T → (∀ i : Int, w ≤ i → i < nw → c 33 i = -1 ∨ (0 ≤ c 33 i ∧ c 33 i < 12)) → ∃ c' : Mem, CS m c' ∧ c' 28 0 = T ∧ (∀ x i : Int, ¬ (x = 31 ∨ x = 33 ∨ x = 34 ∨ x = 36) → c' x i = c x i) ∧ (∀ x i : Int, i < w → c' x i = c x i) ∧ (∀ i : Int, w ≤ i → i < nw → ciW m T c c' i) ∧ ∀ post : Mem → Prop, post c' → wp_X9_comeIn_2 post (rem + 1) w c := by
  intro rem
  induction rem with
  | zero =>
    intro w c hw hC hc _
    refine ⟨c, hC, hc, fun _ _ _ => rfl, fun _ _ _ => rfl, fun i i0 i1 => by omega, fun post hp => ?_⟩
    unfold wp_X9_comeIn_2
    rw [hC 28 4 (by omega), hnw]
    exact bt (by omega) hp
  | succ rem ih =>
    intro w c hw hC hc htr
    have hw30 : 0 ≤ (w : Int) ∧ (w : Int) < 30 := by omega
    have hkw : ¬ (nw : Int) ≤ w := by omega
    have ei := i1 w (by omega)
    have e284 : c 28 4 = nw := by rw [hC 28 4 (by omega)]; exact hnw
    have htw := htr w (by omega) (by omega)
    by_cases hq : ccond T c w
    · have hq1 := hq.1
      have hq2 := hq.2
      have htw' : 0 ≤ c 33 w ∧ c 33 w < 12 := htw.resolve_left hq1
      have e17 : c 17 (c 33 w) = m 17 (c 33 w) := hC 17 _ (by omega)
      have e32 : c 32 w = m 32 w := hC 32 _ (by omega)
      have go : ∀ d : Mem, CS m d → d 28 0 = T → (∀ x i : Int, ¬ (x = 31 ∨ x = 33 ∨ x = 34 ∨ x = 36) → d x i = c x i) → (∀ x i : Int, ¬ i = w → d x i = c x i) → d 33 w = -1 → (m 32 w = m 17 (c 33 w) → d 31 w = c 31 w ∧ d 34 w = c 34 w ∧ d 36 w = 1) → (¬ m 32 w = m 17 (c 33 w) → d 31 w = m 17 (c 33 w) ∧ d 34 w = T + m 28 1 ∧ d 36 w = c 36 w) → (∀ post : Mem → Prop, wp_X9_comeIn_2 post (rem + 1) ((w + 1 : Nat) : Int) d → wp_X9_comeIn_2 post (rem + 1 + 1) w c) → ∃ c' : Mem, CS m c' ∧ c' 28 0 = T ∧ (∀ x i : Int, ¬ (x = 31 ∨ x = 33 ∨ x = 34 ∨ x = 36) → c' x i = c x i) ∧ (∀ x i : Int, i < w → c' x i = c x i) ∧ (∀ i : Int, w ≤ i → i < nw → ciW m T c c' i) ∧ ∀ post : Mem → Prop, post c' → wp_X9_comeIn_2 post (rem + 1 + 1) w c := by
        intro d g1 g2 g3 g4 g5 g6 g7 g8
        obtain ⟨c', p1, p2, p3, p4, p5, p6⟩ := ih (w + 1) d (by omega) g1 g2 (fun i i0 i1 => by rw [g4 33 i (by omega)]; exact htr i (by omega) i1)
        refine ⟨c', p1, p2, fun x i hx => by rw [p3 x i hx, g3 x i hx], fun x i hi => by rw [p4 x i (by omega), g4 x i (by omega)], fun i i0 i1 => ?_, fun post hp => g8 post (p6 post hp)⟩
        by_cases e : i = w
        · subst e
          refine ⟨fun z => absurd hq z, fun _ => ?_⟩
          rw [p4 33 _ (by omega), p4 31 _ (by omega), p4 34 _ (by omega), p4 36 _ (by omega)]
          exact ⟨g5, g6, g7⟩
        · exact ciW_c (p5 i (by omega) i1) (g4 31 i e).symm (g4 33 i e).symm (g4 34 i e).symm (g4 36 i e).symm
      by_cases hg : m 32 w = m 17 (c 33 w)
      · refine go (mset (mset c 33 w (-1)) 36 w 1) (fun x i hx => by rw [mset_ne (by omega), mset_ne (by omega)]; exact hC x i hx) (by rw [mset_ne (by omega), mset_ne (by omega)]; exact hc) (fun x i hx => by rw [mset_ne (by omega), mset_ne (by omega)]) (fun x i hi => by rw [mset_ne (by omega), mset_ne (by omega)]) (by rw [mset_ne (by omega), mset_same]) (fun _ => ⟨by rw [mset_ne (by omega), mset_ne (by omega)], by rw [mset_ne (by omega), mset_ne (by omega)], mset_same _ _ _ _⟩) (fun z => absurd hg z) (fun post hp => ?_)
        unfold wp_X9_comeIn_2
        rw [e284, hc, ei]
        refine bf hkw ⟨hw30, bf hq1 ⟨hw30, bt hq2 ⟨hw30, htw', eqm ⟨hw30, eqm ⟨hw30, ?_⟩⟩⟩⟩⟩
        rw [mset_r (show ¬ (32 : Int) = 33 by decide), e32, e17]
        exact nf hg ⟨hw30, eqm hp⟩
      · refine go (mset (mset (mset c 33 w (-1)) 31 w (m 17 (c 33 w))) 34 w (T + m 28 1)) (fun x i hx => by rw [mset_ne (by omega), mset_ne (by omega), mset_ne (by omega)]; exact hC x i hx) (by rw [mset_ne (by omega), mset_ne (by omega), mset_ne (by omega)]; exact hc) (fun x i hx => by rw [mset_ne (by omega), mset_ne (by omega), mset_ne (by omega)]) (fun x i hi => by rw [mset_ne (by omega), mset_ne (by omega), mset_ne (by omega)]) (by rw [mset_ne (by omega), mset_ne (by omega), mset_same]) (fun z => absurd z hg) (fun _ => ⟨by rw [mset_ne (by omega), mset_same], mset_same _ _ _ _, by rw [mset_ne (by omega), mset_ne (by omega), mset_ne (by omega)]⟩) (fun post hp => ?_)
        unfold wp_X9_comeIn_2
        rw [e284, hc, ei]
        refine bf hkw ⟨hw30, bf hq1 ⟨hw30, bt hq2 ⟨hw30, htw', eqm ⟨hw30, eqm ⟨hw30, ?_⟩⟩⟩⟩⟩
        rw [mset_r (show ¬ (32 : Int) = 33 by decide), e32, e17]
        refine nt hg ⟨hw30, eqm ⟨hw30, eqm ?_⟩⟩
        rw [mset_r (show ¬ (28 : Int) = 31 by decide), mset_r (show ¬ (28 : Int) = 33 by decide), hc, hC 28 1 (by omega), w32_i (x := T + m 28 1) (by omega)]
        exact hp
    · obtain ⟨c', p1, p2, p3, p4, p5, p6⟩ := ih (w + 1) c (by omega) hC hc (fun i i0 i1 => htr i (by omega) i1)
      refine ⟨c', p1, p2, p3, fun x i hi => p4 x i (by omega), fun i i0 i1 => ?_, fun post hp => ?_⟩
      · by_cases e : i = w
        · subst e
          exact ⟨fun _ => ⟨p4 31 _ (by omega), p4 33 _ (by omega), p4 34 _ (by omega), p4 36 _ (by omega)⟩, fun z => absurd z hq⟩
        · exact p5 i (by omega) i1
      · have nx := p6 post hp
        unfold wp_X9_comeIn_2
        rw [e284, hc, ei]
        refine bf hkw ⟨hw30, fun _ => nx, fun q => ⟨hw30, fun q2 => absurd ⟨q, q2⟩ hq, fun _ => nx⟩⟩
/-- the reference: wagons of the train t that come in -/
def rcond (T t : Int) (r : Mem) (i : Int) : Prop := r 77 (6 * i + 1) = t ∧ r 77 (6 * i + 2) = T
def riW (m : Mem) (T t : Int) (r r' : Mem) (i : Int) : Prop := (r' 77 (6 * i + 3) = r 77 (6 * i + 3) ∧ r' 77 (6 * i + 5) = r 77 (6 * i + 5)) ∧ (¬ rcond T t r i → r' 77 (6 * i) = r 77 (6 * i) ∧ r' 77 (6 * i + 1) = r 77 (6 * i + 1) ∧ r' 77 (6 * i + 2) = r 77 (6 * i + 2) ∧ r' 77 (6 * i + 4) = r 77 (6 * i + 4)) ∧ (rcond T t r i → r' 77 (6 * i + 1) = -1 ∧ (r 77 (6 * i + 5) = m 17 t → r' 77 (6 * i) = -1 ∧ r' 77 (6 * i + 2) = T ∧ r' 77 (6 * i + 4) = 1) ∧ (¬ r 77 (6 * i + 5) = m 17 t → r' 77 (6 * i) = m 17 t ∧ r' 77 (6 * i + 2) = T + m 28 1 ∧ r' 77 (6 * i + 4) = 0))
def rc1 (r : Mem) (w a s d : Int) : Mem := mset (mset (mset (mset r 77 (6 * w) a) 77 (6 * w + 1) (-1)) 77 (6 * w + 2) s) 77 (6 * w + 4) d
theorem rc1_o {r : Mem} {w a s d x i : Int} (h : ¬ (x = 77 ∧ 6 * w ≤ i ∧ i ≤ 6 * w + 4 ∧ ¬ i = 6 * w + 3)) : rc1 r w a s d x i = r x i := by
  unfold rc1
  rw [mset_ne (by omega), mset_ne (by omega), mset_ne (by omega), mset_ne (by omega)]
theorem rc1_w (r : Mem) (w a s d : Int) : rc1 r w a s d 77 (6 * w) = a ∧ rc1 r w a s d 77 (6 * w + 1) = -1 ∧ rc1 r w a s d 77 (6 * w + 2) = s ∧ rc1 r w a s d 77 (6 * w + 4) = d := by
  unfold rc1
  refine ⟨?_, ?_, ?_, mset_same _ _ _ _⟩
  · rw [mset_ne (by omega), mset_ne (by omega), mset_ne (by omega), mset_same]
  · rw [mset_ne (by omega), mset_ne (by omega), mset_same]
  · rw [mset_ne (by omega), mset_same]
theorem riW_c {m : Mem} {T t : Int} {r d r' : Mem} {i : Int} (h : riW m T t r r' i) (e : ∀ j : Int, 0 ≤ j → j < 6 → d 77 (6 * i + j) = r 77 (6 * i + j)) : riW m T t d r' i := by
  have e0 : d 77 (6 * i) = r 77 (6 * i) := by have := e 0 (by decide) (by decide); rw [Int.add_zero] at this; exact this
  unfold riW rcond at h ⊢
  rw [e0, e 1 (by decide) (by decide), e 2 (by decide) (by decide), e 3 (by decide) (by decide), e 4 (by decide) (by decide), e 5 (by decide) (by decide)]
  exact h
theorem come_M {m : Mem} {T : Int} (hT : 0 ≤ T ∧ T < 2000) (hso : 0 ≤ m 28 1 ∧ m 28 1 ≤ 12) (h15 : m 67 15 = m 28 1) {nw : Nat} (h13 : m 67 13 = nw) (hnw30 : nw ≤ 30) (t : Int) : ∀ (rem w : Nat) (r : Mem), w + rem = nw → MS m r → r 67 18 = T → ∃ r' : Mem, MS m r' ∧ r' 67 18 = T ∧ (∀ x i : Int, ¬ x = 77 → r' x i = r x i) ∧ (∀ i : Int, i < 6 * w → r' 77 i = r 77 i) ∧ (∀ i : Int, w ≤ i → i < nw → riW m T t r r' i) ∧ ∀ post : Mem → Prop, post r' → wp_X11_comeIn_17 post (rem + 1) t (m 17 t) w r := by
  intro rem
  induction rem with
  | zero =>
    intro w r hw hM h18
    refine ⟨r, hM, h18, fun _ _ _ => rfl, fun _ _ => rfl, fun i i0 i1 => by omega, fun post hp => ?_⟩
    unfold wp_X11_comeIn_17
    rw [hM 67 13 (by decide) (by omega), h13]
    exact bt (by omega) hp
  | succ rem ih =>
    intro w r hw hM h18
    have hw30 : 0 ≤ (w : Int) ∧ (w : Int) < 30 := by omega
    have hkw : ¬ (nw : Int) ≤ w := by omega
    have ei := i1 w (by omega)
    have e13 : r 67 13 = nw := by rw [hM 67 13 (by decide) (by omega)]; exact h13
    have x0 : w32 (6 * (w : Int)) = 6 * w := ix6 hw30.1 hw30.2
    have x1 : w32 (6 * (w : Int) + 1) = 6 * w + 1 := w32_i (by omega)
    have x2 : w32 (6 * (w : Int) + 2) = 6 * w + 2 := w32_i (by omega)
    have x4 : w32 (6 * (w : Int) + 4) = 6 * w + 4 := w32_i (by omega)
    have x5 : w32 (6 * (w : Int) + 5) = 6 * w + 5 := w32_i (by omega)
    have b0 : 0 ≤ 6 * (w : Int) ∧ 6 * (w : Int) < 180 := by omega
    have b1 : 0 ≤ 6 * (w : Int) + 1 ∧ 6 * (w : Int) + 1 < 180 := by omega
    have b2 : 0 ≤ 6 * (w : Int) + 2 ∧ 6 * (w : Int) + 2 < 180 := by omega
    have b4 : 0 ≤ 6 * (w : Int) + 4 ∧ 6 * (w : Int) + 4 < 180 := by omega
    have b5 : 0 ≤ 6 * (w : Int) + 5 ∧ 6 * (w : Int) + 5 < 180 := by omega
    by_cases hq : rcond T t r w
    · have go : ∀ a s d : Int, (r 77 (6 * (w : Int) + 5) = m 17 t → a = -1 ∧ s = T ∧ d = 1) → (¬ r 77 (6 * (w : Int) + 5) = m 17 t → a = m 17 t ∧ s = T + m 28 1 ∧ d = 0) → (∀ post : Mem → Prop, wp_X11_comeIn_17 post (rem + 1) t (m 17 t) ((w + 1 : Nat) : Int) (rc1 r w a s d) → wp_X11_comeIn_17 post (rem + 1 + 1) t (m 17 t) w r) → ∃ r' : Mem, MS m r' ∧ r' 67 18 = T ∧ (∀ x i : Int, ¬ x = 77 → r' x i = r x i) ∧ (∀ i : Int, i < 6 * (w : Int) → r' 77 i = r 77 i) ∧ (∀ i : Int, w ≤ i → i < nw → riW m T t r r' i) ∧ ∀ post : Mem → Prop, post r' → wp_X11_comeIn_17 post (rem + 1 + 1) t (m 17 t) w r := by
        intro a s d g1 g2 g3
        have hw' := rc1_w r w a s d
        obtain ⟨r', p1, p2, p3, p4, p5, p6⟩ := ih (w + 1) (rc1 r w a s d) (by omega) (fun x i x0 hx => by rw [rc1_o (by omega)]; exact hM x i x0 hx) (by rw [rc1_o (by omega)]; exact h18)
        refine ⟨r', p1, p2, fun x i hx => by rw [p3 x i hx, rc1_o (by omega)], fun i hi => by rw [p4 i (by omega), rc1_o (by omega)], fun i i0 i1 => ?_, fun post hp => g3 post (p6 post hp)⟩
        by_cases e : i = w
        · subst e
          refine ⟨⟨by rw [p4 _ (by omega), rc1_o (by omega)], by rw [p4 _ (by omega), rc1_o (by omega)]⟩, fun z => absurd hq z, fun _ => ?_⟩
          rw [p4 _ (by omega), p4 (6 * (w : Int)) (by omega), p4 (6 * (w : Int) + 2) (by omega), p4 (6 * (w : Int) + 4) (by omega), hw'.1, hw'.2.1, hw'.2.2.1, hw'.2.2.2]
          exact ⟨rfl, g1, g2⟩
        · exact riW_c (p5 i (by omega) i1) (fun j j0 j1 => by rw [rc1_o (by omega)])
      have em : ∀ a s d : Int, mset (mset (mset (mset r 77 (6 * (w : Int)) a) 77 (6 * (w : Int) + 1) (-1)) 77 (6 * (w : Int) + 2) s) 77 (6 * (w : Int) + 4) d = rc1 r w a s d := fun _ _ _ => rfl
      by_cases hg : r 77 (6 * (w : Int) + 5) = m 17 t
      · refine go (-1) T 1 (fun _ => ⟨rfl, rfl, rfl⟩) (fun z => absurd hg z) (fun post hp => ?_)
        unfold wp_X11_comeIn_17 wp_X11_comeIn_78 wp_X11_comeIn_98 wp_X11_comeIn_142
        rw [e13, x0, x1, x2, x4, x5, ei, h18]
        refine bf hkw ⟨b1, nf hq.1 ⟨b2, nf hq.2 ⟨b5, nf hg (z1 ⟨b0, eqm ⟨b1, eqm (z1 ⟨b2, eqm (z1 ⟨b4, eqm ?_⟩)⟩)⟩⟩)⟩⟩⟩
        rw [mset_r (show ¬ (67 : Int) = 77 by decide), mset_r (show ¬ (67 : Int) = 77 by decide), h18]
        exact hp
      · refine go (m 17 t) (T + m 28 1) 0 (fun z => absurd z hg) (fun _ => ⟨rfl, rfl, rfl⟩) (fun post hp => ?_)
        unfold wp_X11_comeIn_17 wp_X11_comeIn_78 wp_X11_comeIn_98 wp_X11_comeIn_142
        rw [e13, x0, x1, x2, x4, x5, ei, h18]
        refine bf hkw ⟨b1, nf hq.1 ⟨b2, nf hq.2 ⟨b5, nt hg (z0 ⟨b0, eqm ⟨b1, eqm (z0 ⟨b2, eqm (z0 ⟨b4, eqm ?_⟩)⟩)⟩⟩)⟩⟩⟩
        rw [mset_r (show ¬ (67 : Int) = 77 by decide), mset_r (show ¬ (67 : Int) = 77 by decide), h18, hM 67 15 (by decide) (by omega), h15, w32_i (x := T + m 28 1) (by omega)]
        exact hp
    · obtain ⟨r', p1, p2, p3, p4, p5, p6⟩ := ih (w + 1) r (by omega) hM h18
      refine ⟨r', p1, p2, p3, fun i hi => p4 i (by omega), fun i i0 i1 => ?_, fun post hp => ?_⟩
      · by_cases e : i = w
        · subst e
          exact ⟨⟨p4 _ (by omega), p4 _ (by omega)⟩, fun _ => ⟨p4 _ (by omega), p4 _ (by omega), p4 _ (by omega), p4 _ (by omega)⟩, fun z => absurd z hq⟩
        · exact p5 i (by omega) i1
      · have nx := p6 post hp
        unfold wp_X11_comeIn_17
        rw [e13, x0, x1, x2, ei, h18]
        exact bf hkw ⟨b1, fun _ => nx, fun q => ⟨b2, fun _ => nx, fun q2 => absurd ⟨q, q2⟩ hq⟩⟩
