/-! an hour: all trains -/
def dueP (m : Mem) (T t : Int) : Prop := T % 24 = m 21 t ∧ bit (m 20 t) (T / 24 % 7) = 1
def cloP (m : Mem) (T y : Int) : Prop := m 29 y ≤ T / 24 ∧ T / 24 ≤ m 30 y
theorem tm7 {T : Int} (hT : 0 ≤ T ∧ T ≤ 2000) : Int.tmod (w32 (Int.tdiv T 24)) 7 = T / 24 % 7 := by
  rw [td24 hT.1 hT.2, Int.tmod_eq_emod_of_nonneg (by omega)]
theorem tm24 {T : Int} (hT : 0 ≤ T) : Int.tmod T 24 = T % 24 := Int.tmod_eq_emod_of_nonneg hT
theorem sp_dueC {m c : Mem} (hC : CS m c) {T t : Int} (ht : 0 ≤ t ∧ t < 12) (hT : 0 ≤ T ∧ T ≤ 2000) {post : Int → Mem → Prop} (H1 : dueP m T t → post 1 c) (H0 : ¬ dueP m T t → post 0 c) : wp_X8_isDue t T c post := by
  unfold wp_X8_isDue
  rw [tm24 hT.1, tm7 hT, hC 21 t (by omega), hC 20 t (by omega)]
  refine ⟨ht, fun q => H0 (fun z => q z.1), fun q => ⟨ht, fun q2 => H0 (fun z => ?_), fun q2 => H1 ⟨q, ?_⟩⟩⟩
  · have := z.2; unfold bit at this; omega
  · rcases bit_01 (m 20 t) (T / 24 % 7) with z | z
    · exact absurd z q2
    · exact z
theorem sp_cloC {m c : Mem} (hC : CS m c) {T y : Int} (hc : c 28 0 = T) (hy : 0 ≤ y ∧ y < 8) (hT : 0 ≤ T ∧ T ≤ 2000) {post : Int → Mem → Prop} (H1 : cloP m T y → post 1 c) (H0 : ¬ cloP m T y → post 0 c) : wp_X9_isClosed y c post := by
  unfold wp_X9_isClosed
  rw [hc, td24 hT.1 hT.2, hC 29 y (by omega), hC 30 y (by omega)]
  exact eqm ⟨hy, fun q => H0 (fun z => by have := z.1; omega), fun q => ⟨hy, fun q2 => H0 (fun z => by have := z.2; omega), fun q2 => H1 ⟨by omega, by omega⟩⟩⟩
theorem sp_cloM {m r : Mem} (hR : Rel m) (hM : MS m r) {T y : Int} (hc : r 67 18 = T) (hy : 0 ≤ y ∧ y < 8) (hT : 0 ≤ T ∧ T ≤ 2000) {post : Int → Mem → Prop} (H1 : cloP m T y → post 1 r) (H0 : ¬ cloP m T y → post 0 r) : wp_X11_isClosed y r post := by
  have f := hR.2.2.2.2.1.2.2.2.2.2.2.1 y hy.1 hy.2
  unfold wp_X11_isClosed
  rw [hc, td24 hT.1 hT.2, hM 78 y (by decide) (by omega), hM 79 y (by decide) (by omega), f.1, f.2.1]
  refine ⟨hy, fun q => H0 (fun z => ?_), fun q => ⟨hy, hy, sp_in (fun a b => z1 (H1 ⟨a, b⟩)) (fun z => z0 (H0 z))⟩⟩
  have h1 := z.1
  have h2 := z.2
  rcases f.2.2 with w | w
  · omega
  · omega
theorem ms_r {m r : Mem} (h : MS m r) {x : Int} (h0 : 67 ≤ x) (h1 : ¬ (x = 67 ∨ x = 75 ∨ x = 76 ∨ x = 77)) (i : Int) : r x i = m x i := h x i h0 (by omega)
theorem ms_9 {m r : Mem} (h : MS m r) : r 67 9 = m 67 9 := h 67 9 (by decide) (by decide)
theorem dy_shut {m : Mem} {T t : Int} {c r : Mem} (h : Dy m T (T + 1) c r) : Dy m T (T + 1) (mset c 24 t (w32 (c 24 t + 1))) (mset r 75 (3 * t + 2) (w32 (r 75 (3 * t + 2) + 1))) := by
  obtain ⟨d1, d2, d3, d4, d5, d6⟩ := h
  have r76 : mset r 75 (3 * t + 2) (w32 (r 75 (3 * t + 2) + 1)) 76 = r 76 := mset_r (by decide)
  refine ⟨fun x i hx => by rw [mset_ne (by omega)]; exact d1 x i hx, by rw [mset_ne (by omega)]; exact d2, fun x i x0 hx => by rw [mset_ne (by omega)]; exact d3 x i x0 hx, by rw [mset_ne (by omega)]; exact d4, fun i i0 i1 => ?_, fun i i0 i1 => ?_⟩
  · obtain ⟨⟨e1, e2, e3, e4⟩, e5⟩ := d5 i i0 i1
    unfold DT1
    rw [mset_ne (show ¬ ((75 : Int) = 75 ∧ 3 * i = 3 * t + 2) by omega), mset_ne (show ¬ ((75 : Int) = 75 ∧ 3 * i + 1 = 3 * t + 2) by omega), mset_r (show ¬ (22 : Int) = 24 by decide), mset_r (show ¬ (23 : Int) = 24 by decide), mset_r (show ¬ (25 : Int) = 24 by decide), mset_r (show ¬ (26 : Int) = 24 by decide), r76]
    refine ⟨⟨e1, e2, ?_, e4⟩, e5⟩
    by_cases e : i = t
    · rw [e, mset_same, mset_same, ← e, e3]
    · rw [mset_ne (by omega), mset_ne (by omega)]; exact e3
  · have hi := d6 i i0 i1
    unfold WgE at hi ⊢
    rw [r76, mset_r (show ¬ (77 : Int) = 75 by decide), mset_r (show ¬ (31 : Int) = 24 by decide), mset_r (show ¬ (33 : Int) = 24 by decide), mset_r (show ¬ (34 : Int) = 24 by decide), mset_r (show ¬ (35 : Int) = 24 by decide), mset_r (show ¬ (36 : Int) = 24 by decide)]
    exact hi
theorem dy_tick {m : Mem} {T : Int} {c r : Mem} (h : Dy m T (T + 1) c r) : Dy m (T + 1) (T + 1) (mset c 28 0 (T + 1)) (mset r 67 18 (T + 1)) := by
  obtain ⟨d1, d2, d3, d4, d5, d6⟩ := h
  refine ⟨fun x i hx => by rw [mset_ne (by omega)]; exact d1 x i hx, mset_same _ _ _ _, fun x i x0 hx => by rw [mset_ne (by omega)]; exact d3 x i x0 hx, mset_same _ _ _ _, fun i i0 i1 => ?_, fun i i0 i1 => ?_⟩
  · have := d5 i i0 i1
    unfold DT1 at this ⊢
    rw [mset_r (show ¬ (75 : Int) = 67 by decide), mset_r (show ¬ (76 : Int) = 67 by decide), mset_r (show ¬ (22 : Int) = 28 by decide), mset_r (show ¬ (23 : Int) = 28 by decide), mset_r (show ¬ (24 : Int) = 28 by decide), mset_r (show ¬ (25 : Int) = 28 by decide), mset_r (show ¬ (26 : Int) = 28 by decide)]
    exact this
  · have hi := d6 i i0 i1
    unfold WgE at hi ⊢
    rw [mset_r (show ¬ (76 : Int) = 67 by decide), mset_r (show ¬ (77 : Int) = 67 by decide), mset_r (show ¬ (31 : Int) = 28 by decide), mset_r (show ¬ (33 : Int) = 28 by decide), mset_r (show ¬ (34 : Int) = 28 by decide), mset_r (show ¬ (35 : Int) = 28 by decide), mset_r (show ¬ (36 : Int) = 28 by decide)]
    exact hi
theorem trains_l {m : Mem} (hR : Rel m) {T : Int} (hT : 0 ≤ T ∧ T < 2000) {nt : Nat} (hnt : m 13 0 = nt) : ∀ (rem t : Nat) (c : Mem), t + rem = nt → CS m c → c 28 0 = T → (∀ i : Int, t ≤ i → i < nt → c 25 i < T) → (∃ r : Mem, Dy m T (T + 1) c r) → ∃ c' : Mem, (∀ post : Mem → Prop, post c' → wp_X9_passHour_7 post (rem + 1) t c) ∧ ∀ r : Mem, Dy m T (T + 1) c r → ∃ r' : Mem, (∀ post : Mem → Prop, post r' → wp_X11_anHour_75 post (rem + 1) (T / 24 % 7) t r) ∧ Dy m (T + 1) (T + 1) c' r' ∧ ∀ x i : Int, x < 67 → r' x i = r x i := by
  have h9 : m 67 9 = nt := by rw [hR.2.2.2.1.1]; exact hnt
  have hnt12 : nt ≤ 12 := by have := hR.2.2.2.1.2.2.1; omega
  have hT' : 0 ≤ T ∧ T ≤ 2000 := by omega
  intro rem
  induction rem with
  | zero =>
    intro t c ht hC hc hll hex
    refine ⟨mset c 28 0 (T + 1), fun post hp => ?_, fun r hD => ⟨mset r 67 18 (T + 1), fun post hp => ?_, dy_tick hD, fun x i hx67 => mset_ne (fun z => absurd hx67 (by rw [z.1]; decide))⟩⟩
    · unfold wp_X9_passHour_7
      rw [hC 13 0 (by omega), hnt, hc, w32_i (x := T + 1) (by omega)]
      exact bt (by omega) (eqm hp)
    · unfold wp_X11_anHour_75
      rw [hD.2.2.1 67 9 (by decide) (by omega), h9, hD.2.2.2.1, w32_i (x := T + 1) (by omega)]
      exact bt (by omega) (eqm hp)
  | succ rem ih =>
    intro t c ht hC hc hll hex
    have ht' : 0 ≤ (t : Int) ∧ (t : Int) < m 13 0 := by omega
    have ht12 : 0 ≤ (t : Int) ∧ (t : Int) < 12 := by omega
    have h60 : 0 ≤ 6 * (t : Int) ∧ 6 * (t : Int) < 72 := by omega
    have h62 : 0 ≤ 6 * (t : Int) + 2 ∧ 6 * (t : Int) + 2 < 72 := by omega
    have h63 : 0 ≤ 6 * (t : Int) + 3 ∧ 6 * (t : Int) + 3 < 72 := by omega
    have h32 : 0 ≤ 3 * (t : Int) + 2 ∧ 3 * (t : Int) + 2 < 36 := by omega
    obtain ⟨⟨u0, u1, u2, u3, u4, u5⟩, ⟨v0, v1, v2⟩, ⟨s1, s2, -⟩, ⟨w0, w1, w2, w3, w4, w5, w6, w7⟩, -⟩ := hR.2.2.2.1.2.2.2.2.2.2 t ht'.1 ht'.2
    have hbl := hR.2.2.1.2.2.2.1 (m 14 t) v0 v1
    have hn := hR.n
    have hk20 := hR.2.2.1.2.2.1
    have hf8 : (0 ≤ m 16 t ∧ m 16 t < 8) ∧ (0 ≤ m 17 t ∧ m 17 t < 8) := by
      rw [s1, s2]
      have := hbl.2
      omega
    have x0 : w32 (6 * (t : Int)) = 6 * t := ix6 ht12.1 (by omega)
    have x2 : w32 (6 * (t : Int) + 2) = 6 * t + 2 := w32_i (by omega)
    have x3 : w32 (6 * (t : Int) + 3) = 6 * t + 3 := w32_i (by omega)
    have z2 : w32 (w32 (3 * (t : Int)) + 2) = 3 * t + 2 := ix3' ht12.1 ht12.2 (by omega) (by omega)
    have ei := i1 t (by omega)
    have hkt : ¬ (nt : Int) ≤ t := by omega
    have hb20 : 0 ≤ m 14 t ∧ m 14 t < 20 := by omega
    have e13 : c 13 0 = nt := by rw [hC 13 0 (by omega)]; exact hnt
    -- what the reference does at this train
    have ref : ∀ (r : Mem) (post : Mem → Prop), MS m r → r 67 18 = T → (¬ dueP m T t → wp_X11_anHour_75 post (rem + 1) (T / 24 % 7) ((t + 1 : Nat) : Int) r) → (dueP m T t → (cloP m T (m 16 t) ∨ cloP m T (m 17 t)) → wp_X11_anHour_75 post (rem + 1) (T / 24 % 7) ((t + 1 : Nat) : Int) (mset r 75 (3 * (t : Int) + 2) (w32 (r 75 (3 * (t : Int) + 2) + 1)))) → (dueP m T t → ¬ (cloP m T (m 16 t) ∨ cloP m T (m 17 t)) → wp_X11_leave t r (fun m191 => wp_X11_anHour_75 post (rem + 1) (T / 24 % 7) ((t + 1 : Nat) : Int) m191)) → wp_X11_anHour_75 post (rem + 1 + 1) (T / 24 % 7) t r := by
      intro r post hM h18 g0 g1 g2
      have e74 : ∀ i : Int, r 74 i = m 74 i := fun i => ms_r hM (by decide) (by decide) i
      have e70 : r 70 (m 14 t) = m 16 t := by rw [ms_r hM (by decide) (by decide), s1]; exact hbl.1.1
      have e71 : r 71 (m 14 t) = m 17 t := by rw [ms_r hM (by decide) (by decide), s2]; exact hbl.1.2.1
      unfold wp_X11_anHour_75 wp_X11_anHour_127 wp_X11_anHour_128 wp_X11_anHour_172
      rw [ms_9 hM, h9, x0, x2, x3, e74, e74, e74, u0, u2, u3, h18, tm24 hT.1, ei, z2]
      refine bf hkt ⟨h62, fun q => z0 (g0 (fun z => q z.2)), fun q => ⟨h63, fun q2 => z0 (g0 (fun z => q2 z.1.symm)), fun q2 => z1 ⟨h60, eqm ⟨hb20, ?_⟩⟩⟩⟩
      have hd : dueP m T t := ⟨q2.symm, q⟩
      rw [e70]
      refine sp_cloM hR hM h18 hf8.1 hT' (fun k => n1 ⟨h32, h32, eqm (g1 hd (Or.inl k))⟩) (fun k => n0 ⟨hb20, ?_⟩)
      rw [e71]
      exact sp_cloM hR hM h18 hf8.2 hT' (fun k2 => bf (by decide) ⟨h32, h32, eqm (g1 hd (Or.inr k2))⟩) (fun k2 => bt rfl (g2 hd (fun z => z.elim k k2)))
    clear u0 u1 u2 u3 u4 u5 v0 v1 v2 s1 s2 w0 w1 w2 w3 w4 w5 w6 w7 hbl hn hk20 hb20 x0 x2 x3 z2
    by_cases hd : dueP m T t
    · by_cases hcl : cloP m T (m 16 t) ∨ cloP m T (m 17 t)
      · -- shut
        obtain ⟨c', a1, a2⟩ := ih (t + 1) (mset c 24 t (w32 (c 24 t + 1))) (by omega) (fun x i hx => by rw [mset_ne (by omega)]; exact hC x i hx) (by rw [mset_ne (by omega)]; exact hc) (fun i i0 i1 => by rw [mset_ne (by omega)]; exact hll i (by omega) i1) (by
          obtain ⟨r, hr⟩ := hex
          exact ⟨_, dy_shut hr⟩)
        refine ⟨c', fun post hp => ?_, fun r hD => ?_⟩
        · unfold wp_X9_passHour_7
          rw [e13, hc]
          refine bf hkt (sp_dueC hC ht12 hT' (fun _ => z1 ?_) (fun z => absurd hd z))
          rw [ei]
          unfold wp_X9_leaveOrStay wp_X8_noteShut
          rw [hC 16 t (by omega)]
          refine ⟨ht12, sp_cloC hC hc hf8.1 hT' (fun _ => n1 ⟨ht12, ht12, eqm (a1 post hp)⟩) (fun k => n0 ⟨ht12, ?_⟩)⟩
          rw [hC 17 t (by omega)]
          exact sp_cloC hC hc hf8.2 hT' (fun _ => z1 ⟨ht12, ht12, eqm (a1 post hp)⟩) (fun k2 => absurd hcl (fun z => z.elim k k2))
        · obtain ⟨r', b1, b2, b3⟩ := a2 _ (dy_shut hD)
          exact ⟨r', fun post hp => ref r post hD.2.2.1 hD.2.2.2.1 (fun z => absurd hd z) (fun _ _ => b1 post hp) (fun _ z => absurd hcl z), b2, fun x i hx67 => by rw [b3 x i hx67, mset_ne (fun z => absurd hx67 (by rw [z.1]; decide))]⟩
      · -- leave
        obtain ⟨c1, p1, p2, p3, p4, p5⟩ := leave_l hR ht' hT hd.1 c hC hc (hll t (by omega) (by omega)) hex
        obtain ⟨c', a1, a2⟩ := ih (t + 1) c1 (by omega) p1 p2 (fun i i0 i1 => by rw [p3 i (by omega)]; exact hll i (by omega) i1) (by
          obtain ⟨r, hr⟩ := hex
          obtain ⟨r', -, q2, -⟩ := p5 r hr
          exact ⟨r', q2⟩)
        refine ⟨c', fun post hp => ?_, fun r hD => ?_⟩
        · unfold wp_X9_passHour_7
          rw [e13, hc]
          refine bf hkt (sp_dueC hC ht12 hT' (fun _ => z1 ?_) (fun z => absurd hd z))
          rw [ei]
          unfold wp_X9_leaveOrStay
          rw [hC 16 t (by omega)]
          refine ⟨ht12, sp_cloC hC hc hf8.1 hT' (fun k => absurd (Or.inl k) hcl) (fun k => n0 ⟨ht12, ?_⟩)⟩
          rw [hC 17 t (by omega)]
          exact sp_cloC hC hc hf8.2 hT' (fun k => absurd (Or.inr k) hcl) (fun k2 => z0 ⟨ht12, ht12, p4 _ (a1 post hp)⟩)
        · obtain ⟨r1, q1, q2, q3⟩ := p5 r hD
          obtain ⟨r', b1, b2, b3⟩ := a2 _ q2
          exact ⟨r', fun post hp => ref r post hD.2.2.1 hD.2.2.2.1 (fun z => absurd hd z) (fun _ z => absurd z hcl) (fun _ _ => q1 _ (b1 post hp)), b2, fun x i hx67 => by rw [b3 x i hx67, q3 x i hx67]⟩
    · obtain ⟨c', a1, a2⟩ := ih (t + 1) c (by omega) hC hc (fun i i0 i1 => hll i (by omega) i1) hex
      refine ⟨c', fun post hp => ?_, fun r hD => ?_⟩
      · unfold wp_X9_passHour_7
        rw [e13, hc]
        refine bf hkt (sp_dueC hC ht12 hT' (fun z => absurd z hd) (fun _ => z0 ?_))
        rw [ei]
        exact a1 post hp
      · obtain ⟨r', b1, b2, b3⟩ := a2 r hD
        exact ⟨r', fun post hp => ref r post hD.2.2.1 hD.2.2.2.1 (fun _ => b1 post hp) (fun z => absurd z hd) (fun z => absurd z hd), b2, b3⟩
