/-! hours go by -/
theorem arr_n {m : Mem} {T : Int} {c c' r0 : Mem} (hW : ∀ i : Int, 0 ≤ i → i < m 28 4 → RWag (m 1 0) (m 13 0) T (c 31) (m 32) (c 33) (c 34) (c 36) (r0 76) i) {t : Nat} {r : Mem} (h : AInv m T c c' r0 t 4 r) : AInv m T c c' r0 (t + 1) 0 r := by
  obtain ⟨a1, a2, a3, a4, a5, a6⟩ := h
  have e : 4 * (((t + 1 : Nat)) : Int) + ((0 : Nat) : Int) = 4 * (t : Int) + ((4 : Nat) : Int) := by omega
  refine ⟨a1, a2, a3, by rw [e]; exact a4, by rw [e]; exact a5, fun i i0 i1 => ?_⟩
  rcases a6 i i0 i1 with z | ⟨z1, z2⟩
  · exact Or.inl z
  · refine Or.inr ⟨z1, fun hc => ⟨?_, fun _ p hp => absurd hp (Nat.not_lt_zero p)⟩⟩
    have g := z2 hc
    have ne : ¬ c 33 i = t := fun y => by
      have gp := g.2 y
      rcases (hW i i0 i1).2.2.2.2 with w | ⟨w1, w2, w3, w4, w5, q, q0, q1, q2⟩ | w
      · exact hc.1 w.2.2.1
      · have := gp q.toNat (by clear gp; omega)
        rw [show ((q.toNat : Nat) : Int) = q by clear gp; omega, ← y] at this
        exact this (by rw [q2]; exact hc.2)
      · exact hc.1 w.2.1
    have g1 := g.1
    clear z2 g hW a4 a5 a6
    omega
theorem arr_t {m : Mem} (hR : Rel m) {T : Int} (hT : 0 ≤ T ∧ T < 2000) {c c' r0 : Mem} (hci : ∀ i : Int, 0 ≤ i → i < m 28 4 → ciW m T c c' i ∧ c' 35 i = c 35 i) (hW : ∀ i : Int, 0 ≤ i → i < m 28 4 → RWag (m 1 0) (m 13 0) T (c 31) (m 32) (c 33) (c 34) (c 36) (r0 76) i) {nt : Nat} (hnt : m 13 0 = nt) : ∀ (rem t : Nat) (r : Mem), t + rem = nt → AInv m T c c' r0 t 0 r → ∃ r' : Mem, AInv m T c c' r0 nt 0 r' ∧ ∀ (K62 : Mem → Prop) (post : Mem → Prop), K62 r' → wp_X11_anHour_2 K62 post (rem + 1) t r := by
  have h9 : m 67 9 = nt := by rw [hR.2.2.2.1.1]; exact hnt
  intro rem
  induction rem with
  | zero =>
    intro t r ht hA
    have e : t = nt := by omega
    subst e
    refine ⟨r, hA, fun K62 post hK => ?_⟩
    unfold wp_X11_anHour_2
    rw [ms_9 hA.1, h9]
    exact bt (Int.le_refl _) hK
  | succ rem ih =>
    intro t r ht hA
    have htn : (t : Int) < m 13 0 := by omega
    have hle : ¬ (nt : Int) ≤ t := by omega
    obtain ⟨r1, p1, p2⟩ := arr_q hR hT hci hW t htn 4 0 r (by omega) hA
    obtain ⟨r', l1, l2⟩ := ih (t + 1) r1 (by omega) (arr_n hW p1)
    refine ⟨r', l1, fun K62 post hK => ?_⟩
    unfold wp_X11_anHour_2
    rw [ms_9 hA.1, h9]
    exact bf hle ⟨5, p2 _ post (l2 K62 post hK)⟩
theorem rw_n {n t T : Int} {at_ gl tr si dn cm at' tr' si' dn' cm' : Int → Int} {i y s : Int} (hT : 0 ≤ T ∧ T < 2000) (hs : 0 ≤ s ∧ s ≤ 12) (hy : 0 ≤ y ∧ y < n) (h : RWag n t T at_ gl tr si dn cm i) (hcm : ∀ q : Int, 0 ≤ q → q < 4 → ¬ tr i = -1 → cm' (4 * tr i + q) = inS T (cm (4 * tr i + q)))
    (hn : ¬ (¬ tr i = -1 ∧ si i = T) → at' i = at_ i ∧ tr' i = tr i ∧ si' i = si i ∧ dn' i = dn i) (hc : (¬ tr i = -1 ∧ si i = T) → tr' i = -1 ∧ (gl i = y → at' i = at_ i ∧ si' i = si i ∧ dn' i = 1) ∧ (¬ gl i = y → at' i = y ∧ si' i = T + s ∧ dn' i = dn i)) : RWag n t (T + 1) at' gl tr' si' dn' cm' i := by
  obtain ⟨b1, b2, b3, b4, b5⟩ := h
  by_cases q : ¬ tr i = -1 ∧ si i = T
  · obtain ⟨c1, c2, c3⟩ := hc q
    rcases b5 with z | ⟨z1, z2, z3, z4, z5, z6⟩ | z
    · exact absurd z.2.2.1 q.1
    · by_cases g : gl i = y
      · obtain ⟨d1, d2, d3⟩ := c2 g
        refine ⟨b1, b2, by rw [d2]; exact b3, by rw [d2]; exact b4, Or.inr (Or.inr ⟨by rw [d1]; exact z1, c1, d3⟩)⟩
      · obtain ⟨d1, d2, d3⟩ := c3 g
        refine ⟨b1, b2, by rw [d2]; clear hn hc c2 c3; omega, by rw [d2]; clear hn hc c2 c3; omega, Or.inl ⟨by rw [d1]; exact hy.1, by rw [d1]; exact hy.2, c1, by rw [d3]; exact z4⟩⟩
    · exact absurd z.2.1 q.1
  · obtain ⟨d1, d2, d3, d4⟩ := hn q
    refine ⟨b1, b2, by rw [d3]; exact b3, by rw [d3]; exact b4, ?_⟩
    rw [d1, d2, d3, d4]
    rcases b5 with z | ⟨z1, z2, z3, z4, z5, p, z6, z7, z8⟩ | z
    · exact Or.inl z
    · have hne : ¬ tr i = -1 := by clear hn hc; omega
      have hsi : ¬ si i = T := fun e => q ⟨hne, e⟩
      refine Or.inr (Or.inl ⟨z1, z2, z3, z4, by clear hn hc; omega, p, z6, z7, ?_⟩)
      rw [hcm p z6 z7 hne, z8]
      unfold inS
      rw [if_neg hsi]
    · exact Or.inr (Or.inr z)
theorem dy_come {m : Mem} (hR : Rel m) {T : Int} (hT : 0 ≤ T ∧ T < 2000) {c c' r0 r' : Mem} (h0 : Dy m T T c r0) (hC : CS m c') (hc : c' 28 0 = T) (hx : ∀ x i : Int, ¬ (x = 31 ∨ x = 33 ∨ x = 34 ∨ x = 36) → c' x i = c x i) (hci : ∀ i : Int, 0 ≤ i → i < m 28 4 → ciW m T c c' i) {nt : Nat} (hnt : m 13 0 = nt) (hA : AInv m T c c' r0 nt 0 r') : Dy m T (T + 1) c' r' := by
  obtain ⟨d1, d2, d3, d4, d5, d6⟩ := h0
  obtain ⟨a1, a2, a3, a4, a5, a6⟩ := hA
  have hslot : ∀ i q : Int, 0 ≤ i → i < nt → 0 ≤ q → q < 4 → r' 76 (4 * i + q) = inS T (r0 76 (4 * i + q)) := fun i q i0 i1 q0 q1 => a4 _ (by clear a4 a5 a6 hx; omega) (by clear a4 a5 a6 hx; omega)
  refine ⟨hC, hc, a1, a2, fun i i0 i1 => ?_, fun i i0 i1 => ?_⟩
  · obtain ⟨⟨e1, e2, e3, e4⟩, e5⟩ := d5 i i0 i1
    unfold DT1
    rw [hx 22 i (by decide), hx 23 i (by decide), hx 24 i (by decide), hx 25 i (by decide), hx 26 i (by decide), a3 75 _ (Or.inr rfl), a3 75 _ (Or.inr rfl), a3 75 _ (Or.inr rfl)]
    exact ⟨⟨e1, e2, e3, e4⟩, run_in e5 hT.1 (fun q q0 q1 => hslot i q i0 (by rw [← hnt]; exact i1) q0 q1)⟩
  · have hw := (d6 i i0 i1).2
    have hcw := hci i i0 i1
    have hE : WgE m c' r' i := by
      rcases a6 i i0 i1 with z | ⟨z1, z2⟩
      · exact z.1
      · have hnc : ¬ ccond T c i := fun hcc => by
          have g := (z2 hcc).1
          rcases hw.2.2.2.2 with w | w | w
          · exact hcc.1 w.2.2.1
          · have w2 := w.2.2.1
            rw [hnt] at w2
            exact absurd w2 (Int.not_lt.mpr g)
          · exact hcc.1 w.2.1
        obtain ⟨k1, k2, k3, k4⟩ := hcw.1 hnc
        obtain ⟨w0, w1, w2, w3, w4, w5⟩ := z1
        exact ⟨by rw [k1]; exact w0, by rw [k2]; exact w1, by rw [k3]; exact w2, by rw [hx 35 i (by decide)]; exact w3, by rw [k4]; exact w4, w5⟩
    refine ⟨hE, ?_⟩
    have hso : 0 ≤ m 28 1 ∧ m 28 1 ≤ 12 := ⟨hR.2.2.2.2.1.2.2.2.2.1, hR.2.2.2.2.1.2.2.2.2.2.1⟩
    by_cases htr : c 33 i = -1
    · -- not in a train: nothing changes
      have hnc : ¬ ccond T c i := fun z => z.1 htr
      obtain ⟨k1, k2, k3, k4⟩ := hcw.1 hnc
      have hn2 := hR.n
      refine rw_n (y := 0) (s := m 28 1) hT hso ⟨Int.le_refl _, by clear hx a4 a5 a6; omega⟩ hw (fun q _ _ z => absurd htr z) (fun _ => ⟨k1, k2, k3, k4⟩) (fun z => absurd htr z.1)
    · have htn : 0 ≤ c 33 i ∧ c 33 i < m 13 0 := by
        rcases hw.2.2.2.2 with w | w | w
        · exact absurd w.2.2.1 htr
        · exact ⟨w.2.1, w.2.2.1⟩
        · exact absurd w.2.1 htr
      have hTr := hR.2.2.2.1.2.2.2.2.2.2 (c 33 i) htn.1 htn.2
      have hbl := (hR.2.2.1.2.2.2.1 (m 14 (c 33 i)) hTr.2.1.1 hTr.2.1.2.1).2
      have hy : 0 ≤ m 17 (c 33 i) ∧ m 17 (c 33 i) < m 1 0 := by rw [hTr.2.2.1.2.1]; exact ⟨hbl.2.2.1, hbl.2.2.2.1⟩
      refine rw_n (y := m 17 (c 33 i)) (s := m 28 1) hT hso hy hw (fun q q0 q1 _ => hslot _ q htn.1 (by rw [← hnt]; exact htn.2) q0 q1) hcw.1 hcw.2
theorem hour_l {m : Mem} (hR : Rel m) {T : Int} (hT : 0 ≤ T ∧ T < 2000) (c : Mem) (hC : CS m c) (hc : c 28 0 = T) (hex : ∃ r : Mem, Dy m T T c r) : ∃ c' : Mem, (∀ post : Mem → Prop, post c' → wp_X9_passHour c post) ∧ ∀ r : Mem, Dy m T T c r → ∃ r' : Mem, (∀ post : Mem → Prop, post r' → wp_X11_anHour r post) ∧ Dy m (T + 1) (T + 1) c' r' ∧ ∀ x i : Int, x < 67 → r' x i = r x i := by
  have f5 := hR.2.2.2.2.1
  obtain ⟨nw, hnw⟩ := Int.eq_ofNat_of_zero_le (show 0 ≤ m 28 4 from f5.2.2.2.2.2.2.2.2.1)
  have hnw30 : nw ≤ 30 := by have := f5.2.2.2.2.2.2.2.2.2.1; omega
  have hso : 0 ≤ m 28 1 ∧ m 28 1 ≤ 12 := ⟨f5.2.2.2.2.1, f5.2.2.2.2.2.1⟩
  obtain ⟨nt, hnt⟩ := Int.eq_ofNat_of_zero_le (show 0 ≤ m 13 0 from hR.2.2.2.1.2.1)
  have hnt12 : m 13 0 ≤ 12 := hR.2.2.2.1.2.2.1
  clear f5
  have htr : ∀ i : Int, ((0 : Nat) : Int) ≤ i → i < nw → c 33 i = -1 ∨ (0 ≤ c 33 i ∧ c 33 i < 12) := fun i i0 i1 => by
    obtain ⟨r, hr⟩ := hex
    rcases (hr.2.2.2.2.2 i i0 (by rw [hnw]; exact i1)).2.2.2.2.2 with w | w | w
    · exact Or.inl w.2.2.1
    · exact Or.inr ⟨w.2.1, Int.lt_of_lt_of_le w.2.2.1 hnt12⟩
    · exact Or.inl w.2.1
  obtain ⟨c1, p1, p2, p3, p4, p5, p6⟩ := come_C hT hso hnw hnw30 nw 0 c (by omega) hC hc htr
  have hci : ∀ i : Int, 0 ≤ i → i < m 28 4 → ciW m T c c1 i ∧ c1 35 i = c 35 i := fun i i0 i1 => ⟨p5 i i0 (by rw [← hnw]; exact i1), p3 35 i (by decide)⟩
  have arr : ∀ r : Mem, Dy m T T c r → ∃ r1 : Mem, (Dy m T (T + 1) c1 r1 ∧ ∀ x i : Int, x < 67 → r1 x i = r x i) ∧ ∀ (K62 : Mem → Prop) (post : Mem → Prop), K62 r1 → wp_X11_anHour_2 K62 post (nt + 1) 0 r := fun r hD => by
    have hW : ∀ i : Int, 0 ≤ i → i < m 28 4 → RWag (m 1 0) (m 13 0) T (c 31) (m 32) (c 33) (c 34) (c 36) (r 76) i := fun i i0 i1 => (hD.2.2.2.2.2 i i0 i1).2
    have hA0 : AInv m T c c1 r 0 0 r := by
      refine ⟨hD.2.2.1, hD.2.2.2.1, fun _ _ _ => rfl, fun i i0 i1 => ?_, fun _ _ => rfl, fun i i0 i1 => Or.inr ⟨(hD.2.2.2.2.2 i i0 i1).1, fun hcc => ⟨?_, fun _ p hp => absurd hp (Nat.not_lt_zero p)⟩⟩⟩
      · have i1' : i < 4 * ((0 : Nat) : Int) + ((0 : Nat) : Int) := i1
        omega
      · rcases (hW i i0 i1).2.2.2.2 with w | w | w
        · exact absurd w.2.2.1 hcc.1
        · exact w.2.1
        · exact absurd w.2.1 hcc.1
    obtain ⟨r1, q1, q2⟩ := arr_t hR hT hci hW hnt nt 0 r (Nat.zero_add _) hA0
    exact ⟨r1, ⟨dy_come hR hT hD p1 p2 p3 (fun i i0 i1 => (hci i i0 i1).1) hnt q1, fun x i hx67 => q1.2.2.1 x i (Or.inl hx67)⟩, q2⟩
  have hll : ∀ i : Int, ((0 : Nat) : Int) ≤ i → i < nt → c1 25 i < T := fun i i0 i1 => by
    obtain ⟨r, hr⟩ := hex
    rw [p3 25 i (by decide)]
    exact (hr.2.2.2.2.1 i i0 (by rw [hnt]; exact i1)).2.1
  obtain ⟨c', t1, t2⟩ := trains_l hR hT hnt nt 0 c1 (Nat.zero_add _) p1 p2 hll (by
    obtain ⟨r, hr⟩ := hex
    obtain ⟨r1, q1, -⟩ := arr r hr
    exact ⟨r1, q1.1⟩)
  refine ⟨c', fun post hp => ?_, fun r hD => ?_⟩
  · unfold wp_X9_passHour wp_X9_comeIn
    exact ⟨nw + 1, p6 _ ⟨nt + 1, t1 post hp⟩⟩
  · obtain ⟨r1, ⟨q1, q3⟩, q2⟩ := arr r hD
    obtain ⟨r', s1, s2, s3⟩ := t2 r1 q1
    refine ⟨r', fun post hp => ?_, s2, fun x i hx67 => by rw [s3 x i hx67, q3 x i hx67]⟩
    unfold wp_X11_anHour
    refine ⟨nt + 1, q2 _ post ?_⟩
    rw [q1.2.2.2.1, tm7 ⟨hT.1, Int.le_of_lt hT.2⟩]
    exact eqm ⟨nt + 1, s1 post hp⟩
