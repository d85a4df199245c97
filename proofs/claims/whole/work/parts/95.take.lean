/-! an hour: a train takes wagons -/
def rt1 (r : Mem) (t w x : Int) : Mem := mset (mset (mset (mset (mset r 77 (6 * w) (-1)) 77 (6 * w + 1) t) 77 (6 * w + 2) x) 77 (6 * w + 3) (w32 (r 77 (6 * w + 3) + 1))) 75 (3 * t + 1) (w32 (r 75 (3 * t + 1) + 1))
def ct1 (c : Mem) (t w x : Int) : Mem := mset (mset (mset (mset c 31 w (-1)) 33 w t) 34 w x) 35 w (w32 (c 35 w + 1))
theorem rt1_o {r : Mem} {t w x y i : Int} (h : ¬ (y = 77 ∧ 6 * w ≤ i ∧ i ≤ 6 * w + 3)) (h2 : ¬ (y = 75 ∧ i = 3 * t + 1)) : rt1 r t w x y i = r y i := by
  unfold rt1
  rw [mset_ne (by omega), mset_ne (by omega), mset_ne (by omega), mset_ne (by omega), mset_ne (by omega)]
theorem rt1_w (r : Mem) (t w x : Int) : rt1 r t w x 77 (6 * w) = -1 ∧ rt1 r t w x 77 (6 * w + 1) = t ∧ rt1 r t w x 77 (6 * w + 2) = x ∧ rt1 r t w x 77 (6 * w + 3) = w32 (r 77 (6 * w + 3) + 1) ∧ rt1 r t w x 75 (3 * t + 1) = w32 (r 75 (3 * t + 1) + 1) := by
  unfold rt1
  refine ⟨?_, ?_, ?_, ?_, mset_same _ _ _ _⟩
  · rw [mset_ne (by omega), mset_ne (by omega), mset_ne (by omega), mset_ne (by omega), mset_same]
  · rw [mset_ne (by omega), mset_ne (by omega), mset_ne (by omega), mset_same]
  · rw [mset_ne (by omega), mset_ne (by omega), mset_same]
  · rw [mset_ne (by omega), mset_same]
theorem ct1_o {c : Mem} {t w x y i : Int} (h : ¬ (y = 31 ∨ y = 33 ∨ y = 34 ∨ y = 35)) : ct1 c t w x y i = c y i := by
  unfold ct1
  rw [mset_ne (by omega), mset_ne (by omega), mset_ne (by omega), mset_ne (by omega)]
theorem ct1_i {c : Mem} {t w x y i : Int} (h : ¬ i = w) : ct1 c t w x y i = c y i := by
  unfold ct1
  rw [mset_ne (by omega), mset_ne (by omega), mset_ne (by omega), mset_ne (by omega)]
theorem ct1_w (c : Mem) (t w x : Int) : ct1 c t w x 31 w = -1 ∧ ct1 c t w x 33 w = t ∧ ct1 c t w x 34 w = x ∧ ct1 c t w x 35 w = w32 (c 35 w + 1) ∧ ct1 c t w x 36 w = c 36 w := by
  unfold ct1
  refine ⟨?_, ?_, ?_, mset_same _ _ _ _, ?_⟩
  · rw [mset_ne (by omega), mset_ne (by omega), mset_ne (by omega), mset_same]
  · rw [mset_ne (by omega), mset_ne (by omega), mset_same]
  · rw [mset_ne (by omega), mset_same]
  · rw [mset_ne (by omega), mset_ne (by omega), mset_ne (by omega), mset_ne (by omega)]
def TK (m : Mem) (T t : Int) (cm : Int → Int) (c0 r0 : Mem) (k : Int) (c r : Mem) : Prop := (∀ x i : Int, 22 ≤ x → x ≤ 26 → c x i = c0 x i) ∧ MS m r ∧ r 67 18 = T ∧ (∀ x i : Int, (x < 67 ∨ x = 76) → r x i = r0 x i) ∧ (∀ i : Int, ¬ i = 3 * t + 1 → r 75 i = r0 75 i) ∧ r 75 (3 * t + 1) = w32 (r0 75 (3 * t + 1) + k) ∧ DW m (T + 1) c r cm
theorem w32_a (a b : Int) : w32 (w32 a + b) = w32 (a + b) := by unfold w32; omega
theorem tk_1 {m : Mem} {T t : Int} (ht : 0 ≤ t ∧ t < m 13 0) (hT : 0 ≤ T ∧ T < 2000) (h18 : 1 ≤ m 18 t ∧ m 18 t ≤ 48) {cm : Int → Int} (hcm : ∃ q : Int, 0 ≤ q ∧ q < 4 ∧ cm (4 * t + q) = T + m 18 t) {c0 r0 : Mem} {k : Int} {c r : Mem} (h : TK m T t cm c0 r0 k c r) {w : Int} (hw : 0 ≤ w ∧ w < m 28 4) (ha : 0 ≤ c 31 w) : TK m T t cm c0 r0 (k + 1) (ct1 c t w (T + m 18 t)) (rt1 r t w (T + m 18 t)) := by
  obtain ⟨a1, a2, a3, a4, a5, a6, a7⟩ := h
  have hr := rt1_w r t w (T + m 18 t)
  have hcw := ct1_w c t w (T + m 18 t)
  refine ⟨fun x i x0 x1 => by rw [ct1_o (by omega)]; exact a1 x i x0 x1, fun x i x0 x1 => by rw [rt1_o (by omega) (by omega)]; exact a2 x i x0 x1, by rw [rt1_o (by omega) (by omega)]; exact a3, fun x i hx => by rw [rt1_o (by omega) (by omega)]; exact a4 x i hx, fun i hi => by rw [rt1_o (by omega) (by omega)]; exact a5 i hi, by rw [hr.2.2.2.2, a6, w32_a]; congr 1; omega, fun i i0 i1 => ?_⟩
  have hi := a7 i i0 i1
  unfold WgE RWag at hi ⊢
  by_cases e : i = w
  · subst e
    obtain ⟨⟨e1, e2, e3, e4, e5, e6⟩, b1, b2, b3, b4, b5⟩ := hi
    have hdn : c 36 i = 0 := by
      rcases b5 with z | z | z
      · exact z.2.2.2
      · omega
      · omega
    rw [hr.1, hr.2.1, hr.2.2.1, hr.2.2.2.1, rt1_o (i := 6 * i + 4) (by omega) (by omega), rt1_o (i := 6 * i + 5) (by omega) (by omega), hcw.1, hcw.2.1, hcw.2.2.1, hcw.2.2.2.1, hcw.2.2.2.2, e4]
    exact ⟨⟨rfl, rfl, rfl, rfl, e5, e6⟩, b1, b2, by omega, by omega, Or.inr (Or.inl ⟨rfl, ht.1, ht.2, hdn, by omega, hcm⟩)⟩
  · rw [rt1_o (i := 6 * i) (by omega) (by omega), rt1_o (i := 6 * i + 1) (by omega) (by omega), rt1_o (i := 6 * i + 2) (by omega) (by omega), rt1_o (i := 6 * i + 3) (by omega) (by omega), rt1_o (i := 6 * i + 4) (by omega) (by omega), rt1_o (i := 6 * i + 5) (by omega) (by omega), ct1_i e, ct1_i e, ct1_i e, ct1_i e, ct1_i e]
    exact hi
/-- the wagon that the reference would choose -/
def nxM (m r : Mem) (b : Int) : Int := nxw (fun w => r 77 (6 * w)) (fun w => r 77 (6 * w + 2)) (fun w => pick (r 70) (r 72) (r 73) (r 70 b) (r 77 (6 * w + 5)) (r 67 4).toNat) (r 70 b) (r 67 18) b (m 28 4).toNat
theorem take_l {m : Mem} (hR : Rel m) {T t b : Int} (ht : 0 ≤ t ∧ t < m 13 0) (hb : 0 ≤ b ∧ b < m 6 0) (hT : 0 ≤ T ∧ T < 2000) : ∀ (rem j0 : Nat) (c : Mem), j0 + rem ≤ 12 → CS m c → c 28 0 = T → ∃ (j : Nat) (c' : Mem), j ≤ rem ∧ CS m c' ∧ c' 28 0 = T ∧ (∀ post : Int → Mem → Prop, post ((j0 + j : Nat) : Int) c' → wp_X9_take_3 post (rem + 1) t b ((j0 + rem : Nat) : Int) j0 c) ∧
    ∀ (cm : Int → Int) (c0 r0 : Mem) (k : Int) (r : Mem), (∃ q : Int, 0 ≤ q ∧ q < 4 ∧ cm (4 * t + q) = T + m 18 t) → TK m T t cm c0 r0 k c r → ∃ r' : Mem, (∀ (K14 : Int → Int → Int → Mem → Prop) (post : Mem → Prop) (v3 : Int), K14 t ((rem - j : Nat) : Int) (w32 (v3 + 1)) r' → ∃ n : Nat, wp_X11_leave_50 K14 post n t (rem : Int) v3 b (nxM m r b) r) ∧ TK m T t cm c0 r0 (k + j) c' r' := by
  obtain ⟨b1, b2, b3, b4, b5⟩ := id hR.2.2.1
  have hn := hR.n
  have hb4 := b4 b hb.1 hb.2
  have hbb : (0 ≤ b ∧ b < 20) ∧ 0 ≤ m 7 b ∧ m 7 b < 8 := by omega
  obtain ⟨t1, t2, t3, t4, t5, t6, t7⟩ := id hR.2.2.2.1
  have ht12 : 0 ≤ t ∧ t < 12 := by omega
  have ht7 := t7 t ht.1 ht.2
  have h18 : 1 ≤ m 18 t ∧ m 18 t ≤ 48 := by have := ht7.2.2.2.1; omega
  have h74 : m 74 (6 * t + 4) = m 18 t := ht7.1.2.2.2.2.1
  have f5 := hR.2.2.2.2.1
  obtain ⟨nw, hnw⟩ := Int.eq_ofNat_of_zero_le (show 0 ≤ m 28 4 from f5.2.2.2.2.2.2.2.2.1)
  have hnw30 : nw ≤ 30 := by have := f5.2.2.2.2.2.2.2.2.2.1; omega
  have hM4 : m 67 4 = m 6 0 := b1
  have hM13 : m 67 13 = m 28 4 := f5.2.2.2.2.2.2.2.1
  have hgl : ∀ w : Int, 0 ≤ w → w < nw → 0 ≤ m 32 w ∧ m 32 w < 8 := fun w w0 w1 => by
    have h := (f5.2.2.2.2.2.2.2.2.2.2 w w0 (by omega)).2
    have h1 := h.1
    have h2 := h.2.1
    omega
  clear ht7 t1 t2 t3 t4 t5 t6 t7 b4 b5 f5
  intro rem
  induction rem with
  | zero =>
    intro j0 c hj hC hc
    refine ⟨0, c, Nat.le_refl _, hC, hc, fun post hp => ?_, fun cm c0 r0 k r _ h => ⟨r, fun K14 post v3 hK => ⟨1, ?_⟩, by rw [show k + ((0 : Nat) : Int) = k by omega]; exact h⟩⟩
    · unfold wp_X9_take_3
      exact bt (by omega) hp
    · unfold wp_X11_leave_50
      exact bt (by decide) hK
  | succ rem ih =>
    intro j0 c hj hC hc
    have e284 : c 28 4 = nw := by rw [hC 28 4 (by omega)]; exact hnw
    have e7 : c 7 b = m 7 b := hC 7 b (by omega)
    have e18 : c 18 t = m 18 t := hC 18 t (by omega)
    have g32 : ∀ w : Int, 0 ≤ w → w < nw → 0 ≤ c 32 w ∧ c 32 w < 8 := fun w w0 w1 => by rw [hC 32 w (by omega)]; exact hgl w w0 w1
    have hz := nxw_r (c 31) (c 34) (fun w => c 11 (8 * c 31 w + c 32 w)) (c 7 b) (c 28 0) b nw
    have hEq : ∀ (cm : Int → Int) (c0 r0 : Mem) (k : Int) (r : Mem), TK m T t cm c0 r0 k c r → nxM m r b = nxw (c 31) (c 34) (fun w => c 11 (8 * c 31 w + c 32 w)) (c 7 b) (c 28 0) b nw := fun cm c0 r0 k r h => by
      unfold nxM
      rw [hnw, Int.toNat_natCast]
      exact nx_eq hR hC hc h.2.1 h.2.2.1 hnw (fun i i0 i1 => (h.2.2.2.2.2.2 i i0 i1).1) hb
    have hnx : ∀ post : Int → Mem → Prop, post (nxw (c 31) (c 34) (fun w => c 11 (8 * c 31 w + c 32 w)) (c 7 b) (c 28 0) b nw) c → wp_X9_nextFor b c post := fun post hp => sp_nextC hnw30 hbb.1 e284 (by rw [e7]; exact hbb.2) g32 hp
    generalize nxw (c 31) (c 34) (fun w => c 11 (8 * c 31 w + c 32 w)) (c 7 b) (c 28 0) b nw = z at hz hEq hnx
    by_cases q : z = -1
    · refine ⟨0, c, by omega, hC, hc, fun post hp => ?_, fun cm c0 r0 k r _ h => ⟨r, fun K14 post v3 hK => ⟨1, ?_⟩, by rw [show k + ((0 : Nat) : Int) = k by omega]; exact h⟩⟩
      · unfold wp_X9_take_3
        exact bf (by omega) (hnx _ (nf q hp))
      · unfold wp_X11_leave_50
        rw [hEq cm c0 r0 k r h]
        exact bf (by omega) (bt q hK)
    · have hz' : 0 ≤ z ∧ z < nw ∧ c 31 z = c 7 b := by
        rcases hz with w | w
        · exact absurd w q
        · exact ⟨w.1, w.2.1, w.2.2.1⟩
      have hz30 : 0 ≤ z ∧ z < 30 := by omega
      have hC1 : CS m (ct1 c t z (T + m 18 t)) := fun x i hx => by rw [ct1_o (by omega)]; exact hC x i hx
      have hc1 : ct1 c t z (T + m 18 t) 28 0 = T := by rw [ct1_o (by omega)]; exact hc
      obtain ⟨j, c', k1, k2, k3, k4, k5⟩ := ih (j0 + 1) (ct1 c t z (T + m 18 t)) (by omega) hC1 hc1
      refine ⟨j + 1, c', by omega, k2, k3, fun post hp => ?_, fun cm c0 r0 k r hcm h => ?_⟩
      · have nx := k4 post (by rw [show j0 + 1 + j = j0 + (j + 1) by omega]; exact hp)
        have em : mset (mset (mset (mset c 31 z (-1)) 33 z t) 34 z (w32 (mset (mset c 31 z (-1)) 33 z t 28 0 + mset (mset c 31 z (-1)) 33 z t 18 t))) 35 z (w32 (mset (mset (mset c 31 z (-1)) 33 z t) 34 z (w32 (mset (mset c 31 z (-1)) 33 z t 28 0 + mset (mset c 31 z (-1)) 33 z t 18 t)) 35 z + 1)) = ct1 c t z (T + m 18 t) := by
          unfold ct1
          rw [mset_r (show ¬ (28 : Int) = 33 by decide), mset_r (show ¬ (28 : Int) = 31 by decide), mset_r (show ¬ (18 : Int) = 33 by decide), mset_r (show ¬ (18 : Int) = 31 by decide), hc, e18, w32_i (x := T + m 18 t) (by omega), mset_r (show ¬ (35 : Int) = 34 by decide), mset_r (show ¬ (35 : Int) = 33 by decide), mset_r (show ¬ (35 : Int) = 31 by decide)]
        unfold wp_X9_take_3
        refine bf (by omega) (hnx _ (nt q ⟨hz30, eqm ⟨hz30, eqm ⟨ht12, hz30, eqm ⟨hz30, hz30, eqm ?_⟩⟩⟩⟩))
        rw [em, i1 j0 (by omega)]
        rw [show ((j0 + (rem + 1) : Nat) : Int) = ((j0 + 1 + rem : Nat) : Int) by omega]
        exact nx
      · have h1 := tk_1 ht hT h18 hcm h (w := z) ⟨hz'.1, by omega⟩ (by rw [hz'.2.2, e7]; omega)
        obtain ⟨r', l1, l2⟩ := k5 cm c0 r0 (k + 1) _ hcm h1
        refine ⟨r', fun K14 post v3 hK => ?_, by rw [show k + ((j + 1 : Nat) : Int) = k + 1 + (j : Int) by omega]; exact l2⟩
        obtain ⟨n, hn'⟩ := l1 K14 post v3 (by rw [show rem - j = rem + 1 - (j + 1) by omega]; exact hK)
        refine ⟨n + 1, ?_⟩
        obtain ⟨a1, a2, a3, a4, a5, a6, a7⟩ := id h1
        have x0 : w32 (6 * z) = 6 * z := ix6 hz30.1 hz30.2
        have x1 : w32 (6 * z + 1) = 6 * z + 1 := w32_i (by omega)
        have x2 : w32 (6 * z + 2) = 6 * z + 2 := w32_i (by omega)
        have x3 : w32 (6 * z + 3) = 6 * z + 3 := w32_i (by omega)
        have x4 : w32 (w32 (6 * t) + 4) = 6 * t + 4 := ix6' ht12.1 (by omega) (by omega) (by omega)
        have x5 : w32 (w32 (3 * t) + 1) = 3 * t + 1 := ix3' ht12.1 ht12.2 (by omega) (by omega)
        have e6718 : r 67 18 = T := h.2.2.1
        have e744 : r 74 (6 * t + 4) = m 18 t := by rw [h.2.1 74 _ (by decide) (by omega)]; exact h74
        have em : mset (mset (mset (mset (mset r 77 (6 * z) (-1)) 77 (6 * z + 1) t) 77 (6 * z + 2) (w32 (mset (mset r 77 (6 * z) (-1)) 77 (6 * z + 1) t 67 18 + mset (mset r 77 (6 * z) (-1)) 77 (6 * z + 1) t 74 (6 * t + 4)))) 77 (6 * z + 3) (w32 (mset (mset (mset r 77 (6 * z) (-1)) 77 (6 * z + 1) t) 77 (6 * z + 2) (w32 (mset (mset r 77 (6 * z) (-1)) 77 (6 * z + 1) t 67 18 + mset (mset r 77 (6 * z) (-1)) 77 (6 * z + 1) t 74 (6 * t + 4))) 77 (6 * z + 3) + 1))) 75 (3 * t + 1) (w32 (mset (mset (mset (mset r 77 (6 * z) (-1)) 77 (6 * z + 1) t) 77 (6 * z + 2) (w32 (mset (mset r 77 (6 * z) (-1)) 77 (6 * z + 1) t 67 18 + mset (mset r 77 (6 * z) (-1)) 77 (6 * z + 1) t 74 (6 * t + 4)))) 77 (6 * z + 3) (w32 (mset (mset (mset r 77 (6 * z) (-1)) 77 (6 * z + 1) t) 77 (6 * z + 2) (w32 (mset (mset r 77 (6 * z) (-1)) 77 (6 * z + 1) t 67 18 + mset (mset r 77 (6 * z) (-1)) 77 (6 * z + 1) t 74 (6 * t + 4))) 77 (6 * z + 3) + 1)) 75 (3 * t + 1) + 1)) = rt1 r t z (T + m 18 t) := by
          unfold rt1
          rw [mset_r (show ¬ (67 : Int) = 77 by decide), mset_r (show ¬ (67 : Int) = 77 by decide), mset_r (show ¬ (74 : Int) = 77 by decide), mset_r (show ¬ (74 : Int) = 77 by decide), e6718, e744, w32_i (x := T + m 18 t) (by omega), mset_ne (show ¬ ((77 : Int) = 77 ∧ 6 * z + 3 = 6 * z + 2) by omega), mset_ne (show ¬ ((77 : Int) = 77 ∧ 6 * z + 3 = 6 * z + 1) by omega), mset_ne (show ¬ ((77 : Int) = 77 ∧ 6 * z + 3 = 6 * z) by omega), mset_r (show ¬ (75 : Int) = 77 by decide), mset_r (show ¬ (75 : Int) = 77 by decide), mset_r (show ¬ (75 : Int) = 77 by decide), mset_r (show ¬ (75 : Int) = 77 by decide)]
        unfold wp_X11_leave_50
        rw [hEq cm c0 r0 k r h, x0, x1, x2, x3, x4, x5]
        refine bf (by omega) (bf q ⟨by omega, eqm ⟨by omega, eqm ⟨by omega, by omega, eqm ⟨by omega, by omega, eqm ⟨by omega, by omega, eqm ?_⟩⟩⟩⟩⟩)
        rw [em, show w32 (((rem + 1 : Nat) : Int) + (-1)) = (rem : Int) from by rw [w32_i (by omega)]; omega]
        refine sp_nextM (k := nw) hnw30 hbb.1 (by rw [a2 67 13 (by decide) (by omega), hM13]; exact hnw) (by rw [a2 67 4 (by decide) (by omega), hM4]; omega) ?_
        unfold nxM at hn'
        rw [hnw, Int.toNat_natCast] at hn'
        exact hn'
