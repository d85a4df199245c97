/-! an hour: the trains that leave -/
theorem tk_0 {m : Mem} {T t : Int} (hT : 0 ≤ T) {c r : Mem} (h : Dy m T (T + 1) c r) (ht : 0 ≤ t ∧ t < m 13 0) {q0 : Nat} (hs : r 76 (4 * t + q0) = -1) (hq : q0 < 4) : TK m T t (rset (r 76) (4 * t + q0) (T + m 18 t)) c r 0 c r := by
  obtain ⟨d1, d2, d3, d4, d5, d6⟩ := h
  refine ⟨fun _ _ _ _ => rfl, d3, d4, fun _ _ _ => rfl, fun _ _ => rfl, ?_, fun i i0 i1 => ?_⟩
  · have e := (d5 t ht.1 ht.2).1
    have hr := e.2.2.2
    rw [e.2.1, Int.add_zero, w32_i (by unfold r32 at hr; exact hr)]
  · have hi := d6 i i0 i1
    refine ⟨hi.1, ?_⟩
    have hw := hi.2
    unfold RWag at hw ⊢
    refine ⟨hw.1, hw.2.1, hw.2.2.1, hw.2.2.2.1, ?_⟩
    rcases hw.2.2.2.2 with z | ⟨z1, z2, z3, z4, z5, q, z6, z7, z8⟩ | z
    · exact Or.inl z
    · refine Or.inr (Or.inl ⟨z1, z2, z3, z4, z5, q, z6, z7, ?_⟩)
      rw [rset_ne (fun e => by rw [e] at z8; omega)]; exact z8
    · exact Or.inr (Or.inr z)
theorem leave_l {m : Mem} (hR : Rel m) {T t : Int} (ht : 0 ≤ t ∧ t < m 13 0) (hT : 0 ≤ T ∧ T < 2000) (hdue : T % 24 = m 21 t) (c : Mem) (hC : CS m c) (hc : c 28 0 = T) (hll : c 25 t < T) (hex : ∃ r : Mem, Dy m T (T + 1) c r) : ∃ c' : Mem, CS m c' ∧ c' 28 0 = T ∧ (∀ i : Int, ¬ i = t → c' 25 i = c 25 i) ∧
    (∀ post : Mem → Prop, post c' → wp_X9_take t (c 14 t) (c 19 t) c (fun r48 m48 => (0 ≤ t ∧ t < 12) ∧ (((m48 15 t = (-1) → (wp_X9_leaveOrStay_90 t r48 m48 post)) ∧ (¬ m48 15 t = (-1) → ((0 ≤ t ∧ t < 12) ∧ ((0 ≤ t ∧ t < 12) ∧ (wp_X9_take t (m48 15 t) (w32 (m48 19 t - r48)) m48 (fun r84 m84 => ∀ v4_88 : Int, v4_88 = w32 (r48 + r84) → (wp_X9_leaveOrStay_90 t v4_88 m84 post)))))))))) ∧
    ∀ r : Mem, Dy m T (T + 1) c r → ∃ r' : Mem, (∀ post : Mem → Prop, post r' → wp_X11_leave t r post) ∧ Dy m T (T + 1) c' r' ∧ ∀ x i : Int, x < 67 → r' x i = r x i := by
  obtain ⟨t1, t2, t3, t4, t5, t6, t7⟩ := id hR.2.2.2.1
  have ht12 : 0 ≤ t ∧ t < 12 := by omega
  obtain ⟨⟨u0, u1, u2, u3, u4, u5⟩, ⟨v0, v1, v2⟩, -, ⟨w0, w1, w2, w3, w4, w5, w6, w7⟩, -⟩ := t7 t ht.1 ht.2
  have h18 : 1 ≤ m 18 t ∧ m 18 t ≤ 48 := ⟨w4, w5⟩
  obtain ⟨len, hlen⟩ := Int.eq_ofNat_of_zero_le (show 0 ≤ m 19 t by omega)
  have hl12 : len ≤ 12 := by omega
  have e14 : ∀ d : Mem, CS m d → d 14 t = m 14 t ∧ d 15 t = m 15 t ∧ d 19 t = len ∧ d 18 t = m 18 t := fun d hd => ⟨hd 14 t (by omega), hd 15 t (by omega), by rw [hd 19 t (by omega)]; exact hlen, hd 18 t (by omega)⟩
  clear t7 t1 t4 t5 t6
  obtain ⟨j1, c1, k1, k2, k3, k4, k5⟩ := take_l hR ht (b := m 14 t) ⟨v0, v1⟩ hT len 0 c (by omega) hC hc
  have x4 : w32 (w32 (6 * t) + 4) = 6 * t + 4 := ix6' ht12.1 (by omega) (by omega) (by omega)
  have x5 : w32 (w32 (6 * t) + 5) = 6 * t + 5 := ix6' ht12.1 (by omega) (by omega) (by omega)
  have y0 : w32 (w32 (6 * t) + 0) = 6 * t := by rw [ix6' ht12.1 (by omega) (by omega) (by omega)]; omega
  have y1 : w32 (w32 (6 * t) + 1) = 6 * t + 1 := ix6' ht12.1 (by omega) (by omega) (by omega)
  have z3 : w32 (3 * t) = 3 * t := w32_i (by omega)
  -- the second block
  have second : ∃ (j2 : Nat) (c2 : Mem), j2 ≤ len - j1 ∧ CS m c2 ∧ c2 28 0 = T ∧ (∀ post : Mem → Prop, post (cN c2 t T ((j1 + j2 : Nat) : Int)) → ((c1 15 t = (-1) → (wp_X9_leaveOrStay_90 t (j1 : Int) c1 post)) ∧ (¬ c1 15 t = (-1) → ((0 ≤ t ∧ t < 12) ∧ ((0 ≤ t ∧ t < 12) ∧ (wp_X9_take t (c1 15 t) (w32 (c1 19 t - (j1 : Int))) c1 (fun r84 m84 => ∀ v4_88 : Int, v4_88 = w32 ((j1 : Int) + r84) → (wp_X9_leaveOrStay_90 t v4_88 m84 post)))))))) ∧
      ∀ (cm : Int → Int) (c0 r0 : Mem) (k : Int) (r : Mem), (∃ q : Int, 0 ≤ q ∧ q < 4 ∧ cm (4 * t + q) = T + m 18 t) → TK m T t cm c0 r0 k c1 r → ∃ r' : Mem, (∀ (K162 : Int → Mem → Prop) (post : Mem → Prop), K162 t r' → wp_X11_leave_14 K162 post 2 t ((len - j1 : Nat) : Int) 1 r) ∧ TK m T t cm c0 r0 (k + j2) c2 r' := by
    by_cases hb2 : m 15 t = -1
    · refine ⟨0, c1, by omega, k2, k3, fun post hp => bt (by rw [(e14 c1 k2).2.1]; exact hb2) ?_, fun cm c0 r0 k r _ h => ⟨r, fun K162 post hK => ?_, by rw [show k + ((0 : Nat) : Int) = k by omega]; exact h⟩⟩
      · unfold wp_X9_leaveOrStay_90
        rw [k3]
        exact sp_note ht12 hp
      · have e74 : r 74 (6 * t + 1) = -1 := by rw [h.2.1 74 _ (by decide) (by omega), u1]; exact hb2
        unfold wp_X11_leave_14
        rw [y1, e74]
        refine bf (by decide) ⟨by omega, eqm (nf rfl ⟨1, ?_⟩)⟩
        have fin : wp_X11_leave_14 K162 post 1 t ((len - j1 : Nat) : Int) 2 r := by
          unfold wp_X11_leave_14
          exact bt (by decide) hK
        unfold wp_X11_leave_50
        exact ⟨fun _ => fin, fun _ => bt rfl fin⟩
    · have hv : 0 ≤ m 15 t ∧ m 15 t < m 6 0 := by
        rcases v2 with z | z
        · exact absurd z hb2
        · exact ⟨z.1, z.2.1⟩
      obtain ⟨j2, c2, l1, l2, l3, l4, l5⟩ := take_l hR ht (b := m 15 t) hv hT (len - j1) 0 c1 (by omega) k2 k3
      refine ⟨j2, c2, l1, l2, l3, fun post hp => bf (by rw [(e14 c1 k2).2.1]; exact hb2) ⟨ht12, ht12, ?_⟩, fun cm c0 r0 k r hcm h => ?_⟩
      · rw [(e14 c1 k2).2.1, (e14 c1 k2).2.2.1, show w32 ((len : Int) - (j1 : Int)) = ((0 + (len - j1) : Nat) : Int) from by rw [w32_i (by omega)]; omega]
        refine ⟨len - j1 + 1, l4 _ (eqm ?_)⟩
        unfold wp_X9_leaveOrStay_90
        rw [l3, show w32 ((j1 : Int) + ((0 + j2 : Nat) : Int)) = ((j1 + j2 : Nat) : Int) from by rw [w32_i (by omega)]; omega]
        exact sp_note ht12 hp
      · obtain ⟨r', p1, p2⟩ := l5 cm c0 r0 k r hcm h
        refine ⟨r', fun K162 post hK => ?_, p2⟩
        have e74 : r 74 (6 * t + 1) = m 15 t := by rw [h.2.1 74 _ (by decide) (by omega)]; exact u1
        unfold wp_X11_leave_14
        rw [y1, e74]
        refine bf (by decide) ⟨by omega, eqm (nt hb2 ?_)⟩
        have hn := hR.n
        have hK20 := hR.2.2.1.2.2.1
        have f5 := hR.2.2.2.2.1
        obtain ⟨nw, hnw⟩ := Int.eq_ofNat_of_zero_le (show 0 ≤ m 28 4 from f5.2.2.2.2.2.2.2.2.1)
        have hnw30 : nw ≤ 30 := by have := f5.2.2.2.2.2.2.2.2.2.1; omega
        refine sp_nextM (k := nw) hnw30 (by omega) (by rw [h.2.1 67 13 (by decide) (by omega), show m 67 13 = m 28 4 from f5.2.2.2.2.2.2.2.1]; exact hnw) (by rw [h.2.1 67 4 (by decide) (by omega), show m 67 4 = m 6 0 from hR.2.2.1.1]; exact ⟨hR.2.2.1.2.1, hK20⟩) ?_
        have := p1 (fun v1_3 v2_3 v3_3 m_3 => wp_X11_leave_14 K162 post 1 v1_3 v2_3 v3_3 m_3) post 1 (by
          show wp_X11_leave_14 K162 post 1 t _ (w32 (1 + 1)) r'
          unfold wp_X11_leave_14
          exact bt (by decide) hK)
        unfold nxM at this
        rw [hnw, Int.toNat_natCast] at this
        exact this
  obtain ⟨j2, c2, l1, l2, l3, l4, l5⟩ := second
  have hfr : ∀ x i : Int, 22 ≤ x → x ≤ 26 → c2 x i = c x i := by
    obtain ⟨r, hD⟩ := hex
    have d5 := (hD.2.2.2.2.1 t ht.1 ht.2).2
    have fr := run_free d5 hT.1 hdue hll h18
    obtain ⟨q0, q1, q2, q3⟩ := ff4 fr.2
    have q2' : r 76 (4 * t + q0) = -1 := q2
    have h0 := tk_0 hT.1 hD ht q2' q1
    have hcm : ∃ q : Int, 0 ≤ q ∧ q < 4 ∧ rset (r 76) (4 * t + q0) (T + m 18 t) (4 * t + q) = T + m 18 t := ⟨q0, by omega, by omega, rset_eq rfl⟩
    obtain ⟨r1, p1, p2⟩ := k5 _ _ _ _ _ hcm h0
    obtain ⟨r2, s1, s2⟩ := l5 _ _ _ _ _ hcm p2
    exact s2.1
  have hCN : CS m (cN c2 t T ((j1 + j2 : Nat) : Int)) := fun x i hx => by rw [cN_o (by omega)]; exact l2 x i hx
  refine ⟨cN c2 t T ((j1 + j2 : Nat) : Int), hCN, by rw [cN_o (by omega)]; exact l3, fun i hi => ?_, fun post hp => ?_, fun r hD => ?_⟩
  · rw [cN_o (by omega)]
    exact hfr 25 i (by decide) (by decide)
  · rw [(e14 c hC).1, (e14 c hC).2.2.1]
    refine ⟨len + 1, ?_⟩
    rw [show (len : Int) = ((0 + len : Nat) : Int) by omega]
    refine k4 _ ?_
    rw [show ((0 + j1 : Nat) : Int) = (j1 : Int) by omega]
    exact ⟨ht12, l4 post hp⟩
  · have d5 := (hD.2.2.2.2.1 t ht.1 ht.2).2
    have fr := run_free d5 hT.1 hdue hll h18
    obtain ⟨q0, q1, q2, q3⟩ := ff4 fr.2
    have q2' : r 76 (4 * t + q0) = -1 := q2
    have q3' : ∀ q : Nat, q < q0 → ¬ r 76 (4 * t + q) = -1 := q3
    have h0 := tk_0 hT.1 hD ht q2' q1
    have hcm : ∃ q : Int, 0 ≤ q ∧ q < 4 ∧ rset (r 76) (4 * t + q0) (T + m 18 t) (4 * t + q) = T + m 18 t := ⟨q0, by omega, by omega, rset_eq rfl⟩
    obtain ⟨r1, p1, p2⟩ := k5 _ _ _ _ _ hcm h0
    obtain ⟨r2, s1, s2⟩ := l5 _ _ _ _ _ hcm p2
    have hfin := dy_note ht hT h18 hdue hD hll q1 q2' l2 l3 s2
    rw [show (0 : Int) + (j1 : Int) + (j2 : Int) = ((j1 + j2 : Nat) : Int) by omega] at hfin
    refine ⟨_, fun post hp => ?_, hfin, fun x i hx67 => by unfold rN; rw [mset_r (fun z => absurd hx67 (by rw [z]; decide)), mset_r (fun z => absurd hx67 (by rw [z]; decide))]; exact s2.2.2.2.1 x i (Or.inl hx67)⟩
    have e74 : ∀ i : Int, r 74 i = m 74 i := fun i => hD.2.2.1 74 i (by decide) (by omega)
    unfold wp_X11_leave
    rw [x5, e74, u5, hlen]
    refine ⟨by omega, eqm ⟨3, ?_⟩⟩
    unfold wp_X11_leave_14
    rw [y0, e74, u0]
    refine bf (by decide) ⟨by omega, eqm (nt (by omega) ?_)⟩
    have hK20 := hR.2.2.1.2.2.1
    have f5 := hR.2.2.2.2.1
    obtain ⟨nw, hnw⟩ := Int.eq_ofNat_of_zero_le (show 0 ≤ m 28 4 from f5.2.2.2.2.2.2.2.2.1)
    have hnw30 : nw ≤ 30 := by have := f5.2.2.2.2.2.2.2.2.2.1; omega
    refine sp_nextM (k := nw) hnw30 (by omega) (by rw [hD.2.2.1 67 13 (by decide) (by omega), show m 67 13 = m 28 4 from f5.2.2.2.2.2.2.2.1]; exact hnw) (by rw [hD.2.2.1 67 4 (by decide) (by omega), show m 67 4 = m 6 0 from hR.2.2.1.1]; exact ⟨hR.2.2.1.2.1, hK20⟩) ?_
    have main : ∀ K162 : Int → Mem → Prop, K162 t r2 → ∃ n_4 : Nat, wp_X11_leave_50 (fun v1_3 v2_3 v3_3 m_3 => wp_X11_leave_14 K162 post 2 v1_3 v2_3 v3_3 m_3) post n_4 t (len : Int) 0 (m 14 t) (nxM m r (m 14 t)) r := fun K162 hK => p1 (fun v1_3 v2_3 v3_3 m_3 => wp_X11_leave_14 K162 post 2 v1_3 v2_3 v3_3 m_3) post 0 (s1 K162 post hK)
    unfold nxM at main
    rw [hnw, Int.toNat_natCast] at main
    refine main _ ?_
    rw [z3]
    refine ⟨by omega, by omega, eqm ?_⟩
    have g76 : ∀ i : Int, mset r2 75 (3 * t) (w32 (r2 75 (3 * t) + 1)) 76 i = r 76 i := fun i => by rw [mset_ne (by omega)]; exact s2.2.2.2.1 76 i (Or.inr rfl)
    refine sp_slot ht12 q1 (by rw [g76]; exact q2') (fun q hq => by rw [g76]; exact q3' q hq) ?_
    rw [x4, ix4' ht12.1 ht12.2 (by omega) (by omega)]
    refine ⟨by omega, by omega, eqm ?_⟩
    rw [mset_r (show ¬ (67 : Int) = 75 by decide), mset_r (show ¬ (74 : Int) = 75 by decide), s2.2.2.1, s2.2.1 74 _ (by decide) (by omega), u4, w32_i (x := T + m 18 t) (by omega)]
    exact hp
