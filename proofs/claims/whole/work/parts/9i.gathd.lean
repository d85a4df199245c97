/-! crews: the reference's list of duties, its loops -/
theorem gd_t {t : Nat} (ht : t < 12) : (w32 (w32 (6 * (t : Int)) + 2) = 6 * t + 2 ∧ w32 (w32 (6 * (t : Int)) + 3) = 6 * t + 3 ∧ w32 (w32 (6 * (t : Int)) + 4) = 6 * t + 4) ∧ ((0 ≤ 6 * (t : Int) + 2 ∧ 6 * (t : Int) + 2 < 72) ∧ (0 ≤ 6 * (t : Int) + 3 ∧ 6 * (t : Int) + 3 < 72) ∧ (0 ≤ 6 * (t : Int) + 4 ∧ 6 * (t : Int) + 4 < 72)) ∧ w32 ((t : Int) + 1) = ((t + 1 : Nat) : Int) := ⟨⟨ix6' (by omega) (by omega) (by omega) (by omega), ix6' (by omega) (by omega) (by omega) (by omega), ix6' (by omega) (by omega) (by omega) (by omega)⟩, ⟨by omega, by omega, by omega⟩, i1 t (by omega)⟩
theorem gd_d {d rem : Nat} (hd : d + (rem + 1) = 7) {h : Int} (hh : 0 ≤ h ∧ h < 24) : ¬ (7 : Int) ≤ d ∧ w32 ((d : Int) + 1) = ((d + 1 : Nat) : Int) ∧ (d ≤ 7 ∧ d < 7) ∧ w32 (w32 (24 * (d : Int)) + h) = 24 * d + h ∧ d + 1 + rem = 7 := ⟨by omega, i1 d (by omega), by omega, by rw [w32_i (x := 24 * (d : Int)) (by omega), w32_i (by omega)], by omega⟩
theorem gd_s {s p k : Int} {t : Nat} (ht : t < 12) (hs : 0 ≤ s ∧ s ≤ 336 * t) (hp : 0 ≤ p ∧ p ≤ 7) (hk : 1 ≤ k ∧ k ≤ 48) : w32 (s + p * k + k) = s + p * k + k := by
  have hm := mul7 hp hk
  exact w32_i (by omega)
theorem gd_o {t' d' t d : Nat} (h : t' < t ∨ (t' = t ∧ d' < d + 1)) (e : ¬ (t' = t ∧ d' = d)) : t' < t ∨ (t' = t ∧ d' < d) := by omega
theorem gd_n {a b : Int} (h : a < b) : ¬ a = b := by omega
theorem sp_gathD {K : Nat} (hK : K ≤ 12) {dy hr tk : Nat → Int} {r0 : Mem} {post : Int → Mem → Prop} (h9 : r0 67 9 = K) (h74 : ∀ t : Nat, t < K → (r0 74 (6 * (t : Int) + 2) = dy t ∧ r0 74 (6 * (t : Int) + 3) = hr t ∧ r0 74 (6 * (t : Int) + 4) = tk t) ∧ (0 ≤ hr t ∧ hr t < 24) ∧ (1 ≤ tk t ∧ tk t ≤ 48)) (H : ∀ r : Mem, FrD r0 r → r 67 41 = sumg (fun t => pd (dy t) 7) K → Tab dy hr r K 0 → post (sumg (fun t => pd (dy t) 7 * tk t) K) r) : wp_X11_gatherDuties r0 post := by
  have inner : ∀ (K9 : Int → Int → Mem → Prop) (t : Nat) (s : Int), t < K → 0 ≤ s ∧ s ≤ 336 * t → (∀ r : Mem, FrD r0 r → r 67 41 = idx dy t 7 → Tab dy hr r t 7 → K9 (s + pd (dy t) 7 * tk t) ((t + 1 : Nat) : Int) r) → ∀ (rem d : Nat) (r : Mem), d + rem = 7 → FrD r0 r → r 67 41 = idx dy t d → Tab dy hr r t d → wp_X11_gatherDuties_19 K9 post (rem + 1) (s + pd (dy t) d * tk t) t d r := by
    intro K9 t s ht hs hK9 rem
    have ht12 : t < 12 := Nat.lt_of_lt_of_le ht hK
    obtain ⟨⟨e2, e3, e4⟩, hh, hk⟩ := h74 t ht
    obtain ⟨⟨x2, x3, x4⟩, ⟨c2, c3, c4⟩, et⟩ := gd_t ht12
    induction rem with
    | zero =>
      intro d r hd f e41 hT
      have : d = 7 := by omega
      subst this
      unfold wp_X11_gatherDuties_19
      rw [et]
      exact bt (by decide) (hK9 r f e41 hT)
    | succ rem ih =>
      intro d r hd f e41 hT
      obtain ⟨hd7, ed, hd7', e24, hd1⟩ := gd_d hd hh
      have f74 : ∀ i : Int, r 74 i = r0 74 i := fun i => f 74 i (fun z => by rcases z with z | z | z; exact absurd z (by decide); exact absurd z (by decide); exact absurd z.1 (by decide))
      have hib0 := (idx_b (dy := dy) hK ht hd7'.1).1
      have hpd : 0 ≤ pd (dy t) d ∧ pd (dy t) d ≤ 7 := ⟨(pd_r (dy t) d).1, Int.le_trans (pd_r (dy t) d).2 (by have := hd7'.1; exact Int.ofNat_le.mpr this)⟩
      unfold wp_X11_gatherDuties_19
      rw [x2, f74, e2, ed]
      refine bf hd7 ⟨c2, fun q => ?_, fun q => ?_⟩
      · have q0 : bit (dy t) d = 0 := (bit_01 (dy t) d).resolve_right q
        have nx := ih (d + 1) r hd1 f (by rw [e41]; unfold idx; rw [pd, q0, Int.add_zero]) (fun t' d' h1 h2 h3 => by
          by_cases e : t' = t ∧ d' = d
          · rw [e.1, e.2, q0] at h3; exact absurd h3 (by decide)
          · exact hT t' d' (gd_o h1 e) h2 h3)
        rw [pd, q0, Int.add_zero] at nx
        exact nx
      · have q1 : bit (dy t) d = 1 := q
        have hlt := (idx_b (dy := dy) hK ht hd7'.1).2.2 hd7'.2 q1
        have hi84 : 0 ≤ idx dy t d ∧ idx dy t d < 84 := ⟨hib0, hlt⟩
        have nx := ih (d + 1) (mset (mset (mset r 89 (idx dy t d) t) 90 (idx dy t d) (24 * (d : Int) + hr t)) 67 41 (idx dy t d + 1)) hd1 (fun x i hx => by rw [mset_ne (fun z => hx (Or.inr (Or.inr z))), mset_ne (fun z => hx (Or.inr (Or.inl z.1))), mset_ne (fun z => hx (Or.inl z.1))]; exact f x i hx) (by rw [mset_same]; unfold idx; rw [pd, q1, Int.add_assoc]) (fun t' d' h1 h2 h3 => by
          rw [mset_r (show ¬ (89 : Int) = 67 by decide), mset_r (show ¬ (89 : Int) = 90 by decide), mset_r (show ¬ (90 : Int) = 67 by decide)]
          by_cases e : t' = t ∧ d' = d
          · rw [e.1, e.2, mset_same, mset_same]; exact ⟨rfl, rfl⟩
          · have hl : idx dy t' d' < idx dy t d := idx_lt (gd_o h1 e) h2 h3
            rw [mset_ne (fun z => gd_n hl z.2), mset_ne (fun z => gd_n hl z.2), mset_r (show ¬ (90 : Int) = 89 by decide)]
            exact hT t' d' (gd_o h1 e) h2 h3)
        rw [pd, q1, Int.add_mul, Int.one_mul, ← Int.add_assoc] at nx
        rw [e41]
        refine ⟨hi84, eqm ?_⟩
        rw [x3, x4, mset_r (show ¬ (67 : Int) = 89 by decide), e41, mset_r (show ¬ (74 : Int) = 89 by decide), f74, e3, e24]
        refine ⟨c3, hi84, eqm ⟨c4, eqm (eqm ?_)⟩⟩
        rw [mset_r (show ¬ (74 : Int) = 90 by decide), mset_r (show ¬ (74 : Int) = 89 by decide), f74, e4, mset_r (show ¬ (67 : Int) = 90 by decide), mset_r (show ¬ (67 : Int) = 89 by decide), e41, w32_i (x := idx dy t d + 1) ⟨Int.le_trans (by decide) (Int.le_trans hib0 (Int.le_add_of_nonneg_right (by decide))), Int.lt_of_le_of_lt (Int.add_le_add_right (Int.le_of_lt hlt) 1) (by decide)⟩, gd_s ht12 hs hpd hk]
        exact nx
  have outer : ∀ (rem t : Nat) (r : Mem), t + rem = K → FrD r0 r → r 67 41 = sumg (fun t => pd (dy t) 7) t → Tab dy hr r t 0 → wp_X11_gatherDuties_9 post (rem + 1) (sumg (fun t => pd (dy t) 7 * tk t) t) t r := by
    intro rem
    induction rem with
    | zero =>
      intro t r ht f e hT
      have : t = K := by omega
      subst this
      unfold wp_X11_gatherDuties_9
      rw [f 67 9 (by omega), h9]
      exact bt (Int.le_refl _) (H r f e hT)
    | succ rem ih =>
      intro t r ht f e hT
      have hs := sumg_b (g := fun t => pd (dy t) 7 * tk t) (B := 336) t (fun j hj => mul7 (pd_r (dy j) 7) (h74 j (by omega)).2.2)
      unfold wp_X11_gatherDuties_9
      rw [f 67 9 (by omega), h9]
      refine bf (by omega) ⟨8, ?_⟩
      have := inner _ t (sumg (fun t => pd (dy t) 7 * tk t) t) (by omega) ⟨hs.1, by have := hs.2; omega⟩ (fun r1 f1 e1 hT1 => ih (t + 1) r1 (by omega) f1 e1 (fun t' d' h1 h2 h3 => hT1 t' d' (by omega) h2 h3)) 7 0 r (by omega) f (by rw [e]; unfold idx; rw [pd]; omega) hT
      rw [show pd (dy t) 0 = 0 from rfl, Int.zero_mul, Int.add_zero] at this
      exact this
  unfold wp_X11_gatherDuties
  refine eqm ⟨K + 1, outer K 0 _ (by omega) (fun x i hx => mset_ne (by omega)) (mset_same _ _ _ _) (fun t' d' h1 => by omega)⟩
