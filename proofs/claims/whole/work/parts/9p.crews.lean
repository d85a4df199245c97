/-! crews -/
theorem sp_c19 {N : Nat} (hN : N ≤ 84) {r : Mem} {K : Int → Int → Int → Int → Mem → Prop} {post : Int → Mem → Prop} {v1 v2 : Int} (h : r 67 41 = N) (H : ∀ r' : Mem, (∀ x k : Int, ¬ (x = 91 ∨ x = 92) → r' x k = r x k) → (∀ y : Nat, y < N → r' 91 y = -1 ∧ r' 92 y = -1) → K v1 v2 N 0 r') : ∃ n : Nat, wp_X11_crews_19 K post n v1 v2 0 r := by
  have key : ∀ (rem j : Nat) (r' : Mem), j + rem = N → (∀ x k : Int, ¬ (x = 91 ∨ x = 92) → r' x k = r x k) → (∀ y : Nat, y < j → r' 91 y = -1 ∧ r' 92 y = -1) → wp_X11_crews_19 K post (rem + 1) v1 v2 j r' := by
    intro rem
    induction rem with
    | zero =>
      intro j r' hj hf hy
      have : j = N := by omega
      subst this
      unfold wp_X11_crews_19
      rw [hf 67 41 (by decide), h]
      exact bt (Int.le_refl _) (eqm (H r' hf hy))
    | succ rem ih =>
      intro j r' hj hf hy
      have nx := ih (j + 1) (mset (mset r' 91 j (-1)) 92 j (-1)) (by omega) (fun x k hx => by rw [mset_ne (fun z => hx (Or.inr z.1)), mset_ne (fun z => hx (Or.inl z.1))]; exact hf x k hx) (fun y hyj => by
        rw [mset_r (show ¬ (91 : Int) = 92 by decide)]
        by_cases e : y = j
        · rw [e, mset_same, mset_same]; exact ⟨rfl, rfl⟩
        · rw [mset_ne (by omega), mset_ne (by omega), mset_r (show ¬ (92 : Int) = 91 by decide)]; exact hy y (by omega))
      have cj : 0 ≤ (j : Int) ∧ (j : Int) < 84 := by omega
      unfold wp_X11_crews_19
      rw [hf 67 41 (by decide), h, i1 j (by omega)]
      exact bf (by omega) ⟨cj, eqm ⟨cj, eqm nx⟩⟩
  exact ⟨N + 1, key N 0 r (by omega) (fun _ _ _ => rfl) (fun y hy => by omega)⟩
/-- crews 1 of the reference: the count behind all searches -/
theorem sp_c55 {r0 : Mem} {N : Nat} {o e : Nat → Nat} {b rd : Nat → Int} (hD : DL r0 N o e b rd) {K : Int → Int → Int → Mem → Prop} {post : Int → Mem → Prop} {v2 : Int} {r : Mem} (hf : FrJ r0 r) (h1 : ∀ y : Nat, y < N → r 91 y = -1 ∧ r 92 y = -1) (H : ∀ (r' : Mem) (L V : Nat → Bool), FrJ r0 r' → JG (Fol o e b rd) N N L V (r' 91) (r' 92) → K 1 v2 (cH (r' 92) (-1) N) r') : ∃ n : Nat, wp_X11_crews_55 K post n 1 v2 N 0 r := by
  have h84 := hD.2.1
  have g41 : ∀ r' : Mem, FrJ r0 r' → r' 67 41 = N := fun r' hf' => by rw [hf' 67 41 (by decide)]; exact hD.1
  have key : ∀ (rem i : Nat) (r' : Mem) (L V : Nat → Bool), i + rem = N → FrJ r0 r' → JG (Fol o e b rd) N i L V (r' 91) (r' 92) → wp_X11_crews_55 K post (rem + 1) 1 v2 (cH (r' 92) (-1) N) i r' := by
    intro rem
    induction rem with
    | zero =>
      intro i r' L V hi hf' hG
      have : i = N := by omega
      subst this
      unfold wp_X11_crews_55
      rw [g41 r' hf']
      exact bt (Int.le_refl _) (H r' L V hf' hG)
    | succ rem ih =>
      intro i r' L V hi hf' hG
      have hc := cB_le (fun y => decide (¬ (y : Int) = -1 ∧ r' 92 y = -1)) N
      have hc' : cH (r' 92) (-1) N ≤ N := hc
      clear hc
      unfold wp_X11_crews_55
      rw [g41 r' hf', i1 i (by omega)]
      refine bf (by omega) (nf rfl (sp_join hD (by omega) hf' hG (fun r2 L2 V2 hf2 hG2 c2 => z1 (eqm ?_)) (fun r2 L2 V2 hf2 hG2 c2 => z0 (eqm ?_))))
      · have nx := ih (i + 1) r2 L2 V2 (by omega) hf2 hG2
        rw [w32_i (by omega), show ((cH (r' 92) (-1) N : Int) - 1) = ((cH (r2 92) (-1) N : Nat) : Int) by omega]
        exact nx
      · have nx := ih (i + 1) r2 L2 V2 (by omega) hf2 hG2
        rw [w32_i (by omega), show ((cH (r' 92) (-1) N : Int) - 0) = ((cH (r2 92) (-1) N : Nat) : Int) by omega]
        exact nx
  have hcN : cH (r 92) (-1) N = N := cB_all N (fun y hy => decide_eq_true ⟨by omega, (h1 y hy).2⟩)
  have st := key N 0 r (fun _ => false) (fun _ => false) (by omega) hf ⟨⟨fun x hx => Or.inl (h1 x hx).1, fun j hj _ => Or.inl (h1 j hj).2⟩, fun z hz _ => (h1 z hz).1, fun y _ hv => Bool.noConfusion hv, fun x y _ _ hl => Bool.noConfusion hl, fun x _ hl => Bool.noConfusion hl, by rw [hcN]; omega⟩
  rw [hcN] at st
  exact ⟨N + 1, st⟩
theorem crew_eq {N : Nat} {o e : Nat → Nat} {b rd : Nat → Int} (ho : ∀ k : Nat, k < N → o k < 8) (he : ∀ k : Nat, k < N → e k < 8) (hb : ∀ k : Nat, k < N → b k < 168) (hr : ∀ k : Nat, k < N → 0 ≤ rd k) {X : Nat → Int} (hX : FewX (cS o b N) (cS e rd N) 168 X) {L V : Nat → Bool} {B A : Int → Int} (hG : JG (Fol o e b rd) N N L V B A) : sumg X 8 = (cH A (-1) N : Int) := by
  obtain ⟨hM, -, -, hCl, -, hc⟩ := hG
  have h1 := crew_a ho (fun y hy => (hX y hy).1) (fun j => A j) (fun j hj => by
    rcases hM.2 j hj (by omega) with q | ⟨x, hx, q1, q2, q3⟩
    · exact Or.inl q
    · exact Or.inr ⟨x, hx, q1, q2.1, q2.2⟩) (fun j j' hj hj' hjj hn => by
    rcases hM.2 j hj (by omega) with q | ⟨x, hx, q1, q2, q3⟩
    · exact absurd q hn
    · rcases hM.2 j' hj' (by omega) with p | ⟨x2, hx2, p1, p2, p3⟩
      · rw [p] at hjj; exact absurd hjj hn
      · have : x = x2 := by omega
        subst this
        omega)
  have h2 := crew_b ho he hb (fun y hy T t1 t0 => (hX y hy).2 T t0 t1) (by decide) hr L V (fun i j hi hj hl h3 h4 => hCl i j hi hj hl ⟨h3, h4⟩)
  have e1 : cB (fun j => decide (A j = -1)) N = cH A (-1) N := cB_eq N (fun y _ => decide_eq_decide.mpr ⟨fun w => ⟨by omega, w⟩, fun w => w.2⟩)
  rw [e1] at h1
  omega
theorem few_c {S S' A A' : Nat → Int → Int} {h : Int} {X : Nat → Int} (hS : ∀ (y : Nat) (T : Int), S' y T = S y T) (hA : ∀ (y : Nat) (T : Int), A' y T = A y T) (hX : FewX S A h X) : FewX S' A' h X := fun y hy => by
  obtain ⟨⟨T, hT⟩, h2⟩ := hX y hy
  exact ⟨⟨T, by rw [hS, hA]; exact hT⟩, fun T t0 t1 => by rw [hS, hA]; exact h2 T t0 t1⟩
theorem scr_i {c i : Int} (h : c = 27 ∨ c = 89 ∨ c = 90 ∨ c = 91 ∨ c = 92 ∨ c = 93 ∨ c = 94 ∨ (c = 67 ∧ i = 41)) : Scr c i := by unfold Scr; omega
theorem cr_b {x h : Int} {d : Nat} (e : x = 24 * (d : Int) + h) (hd : d < 7) (hh : 0 ≤ h ∧ h < 24) : 0 ≤ x + 0 ∧ x + 0 < 168 := by omega
theorem cr_s {x k s : Int} : x + (k + s) = x + 0 + k + s := by omega
theorem op_crews : CrewsOk := by
  intro m hR w
  obtain ⟨t1, t2, t3, t4, t5, t6, t7⟩ := hR.2.2.2.1
  have hK : ((m 13 0).toNat : Int) = m 13 0 := Int.toNat_of_nonneg t2
  generalize hKd : (m 13 0).toNat = K at hK
  have hK12 : K ≤ 12 := by omega
  have hT : ∀ t : Nat, t < K → (m 74 (6 * (t : Int)) = m 14 t ∧ m 74 (6 * (t : Int) + 2) = m 20 t ∧ m 74 (6 * (t : Int) + 3) = m 21 t ∧ m 74 (6 * (t : Int) + 4) = m 18 t) ∧ (0 ≤ m 14 t ∧ m 14 t < 20) ∧ ((0 ≤ m 16 t ∧ m 16 t < 8) ∧ (0 ≤ m 17 t ∧ m 17 t < 8)) ∧ (m 70 (m 14 t) = m 16 t ∧ m 71 (m 14 t) = m 17 t) ∧ (1 ≤ m 20 t ∧ m 20 t ≤ 127) ∧ (0 ≤ m 21 t ∧ m 21 t < 24) ∧ (1 ≤ m 18 t ∧ m 18 t ≤ 48) := by
    intro t ht
    obtain ⟨⟨u0, u1, u2, u3, u4, u5⟩, ⟨v0, v1, v2⟩, ⟨s1, s2, -⟩, ⟨w0, w1, w2, w3, w4, w5, w6, w7⟩, -⟩ := t7 t (by omega) (by omega)
    have hbl := hR.2.2.1.2.2.2.1 (m 14 t) v0 v1
    have hn := hR.n
    have hk20 := hR.2.2.1.2.2.1
    have hf8 : (0 ≤ m 16 t ∧ m 16 t < 8) ∧ (0 ≤ m 17 t ∧ m 17 t < 8) := by
      rw [s1, s2]
      have := hbl.2
      omega
    exact ⟨⟨u0, u2, u3, u4⟩, ⟨v0, by omega⟩, hf8, ⟨by rw [s1]; exact hbl.1.1, by rw [s2]; exact hbl.1.2.1⟩, ⟨w0, w1⟩, ⟨w2, w3⟩, ⟨w4, w5⟩⟩
  have h9 : m 67 9 = K := by rw [t1]; exact hK.symm
  -- the reference, from a state that is like m but for row 27
  have ref : ∀ (m1 : Mem) (post : Int → Mem → Prop) (v : Int), (∀ x k : Int, ¬ x = 27 → m1 x k = m x k) → (0 ≤ v ∧ v ≤ 2) → (∀ r : Mem, (∀ x k : Int, ¬ Scr x k → r x k = m x k) → (v = 0 → post (sumg (fun t => pd (m 20 t) 7) K) r) ∧ (v = 2 → post (sumg (fun t => pd (m 20 t) 7 * m 18 t) K) r) ∧ (v = 1 → ∀ (N : Nat) (o e : Nat → Nat) (b rd : Nat → Int) (L V : Nat → Bool), (∀ k : Nat, k < N → o k < 8) → (∀ k : Nat, k < N → e k < 8) → (∀ k : Nat, k < N → b k < 168) → (∀ k : Nat, k < N → 0 ≤ rd k) → (∀ (y : Nat) (T : Int), cS o b N y T = cD (fun t => m 20 t) (fun t => m 21 t) (fun _ => 0) (fun t => (m 16 t).toNat) K y T) → (∀ (y : Nat) (T : Int), cS e rd N y T = cD (fun t => m 20 t) (fun t => m 21 t) (fun t => m 18 t + m 13 1) (fun t => (m 17 t).toNat) K y T) → JG (Fol o e b rd) N N L V (r 91) (r 92) → post (cH (r 92) (-1) N) r)) → wp_X11_crews v m1 post := by
    intro m1 post v hm1 hv H
    unfold wp_X11_crews
    refine sp_in (fun _ _ => n1 ?_) (fun z => absurd hv z)
    refine sp_gathD (K := K) hK12 (dy := fun t => m 20 t) (hr := fun t => m 21 t) (tk := fun t => m 18 t) (by rw [hm1 67 9 (by decide)]; exact h9) (fun t ht => ?_) (fun r2 hf2 h41 hTab => ?_)
    · obtain ⟨⟨a0, a2, a3, a4⟩, -, -, -, -, a5, a6⟩ := hT t ht
      rw [hm1 74 _ (by decide), hm1 74 _ (by decide), hm1 74 _ (by decide)]
      exact ⟨⟨a2, a3, a4⟩, a5, a6⟩
    have hs := sumg_b (g := fun t => pd (m 20 t) 7) (B := 7) K (fun j _ => pd_r (m 20 j) 7)
    obtain ⟨N, hN⟩ : ∃ N : Nat, (N : Int) = sumg (fun t => pd (m 20 t) 7) K := ⟨(sumg (fun t => pd (m 20 t) 7) K).toNat, Int.toNat_of_nonneg hs.1⟩
    have hN84 : N ≤ 84 := by
      have := hs.2
      have h7 : 7 * K ≤ 84 := by omega
      omega
    rw [← hN] at h41
    refine sp_c19 hN84 h41 (fun r3 hf3 h3 => ?_)
    have hr2 : ∀ x k : Int, ¬ (x = 27 ∨ x = 89 ∨ x = 90 ∨ (x = 67 ∧ k = 41)) → r2 x k = m x k := fun x k hx => by
      rw [hf2 x k (by omega), hm1 x k (by omega)]
    have hr3 : ∀ x k : Int, ¬ Scr x k → r3 x k = m x k := fun x k hx => by
      rw [hf3 x k (fun z => hx (scr_i (by omega))), hr2 x k (fun z => hx (scr_i (by omega)))]
    by_cases hv1 : v = 1
    · subst hv1
      have g74 : ∀ k : Int, r2 74 k = m 74 k := fun k => hr2 74 k (by omega)
      have g71 : ∀ k : Int, r2 71 k = m 71 k := fun k => hr2 71 k (by omega)
      have g70 : ∀ k : Int, r2 70 k = m 70 k := fun k => hr2 70 k (by omega)
      have g19 : r2 67 19 = m 67 19 := hr2 67 19 (by omega)
      have hD : DL r2 N (fun k => (m 16 (((r2 89 k).toNat : Nat) : Int)).toNat) (fun k => (m 17 (((r2 89 k).toNat : Nat) : Int)).toNat) (fun k => r2 90 k + 0) (fun k => r2 90 k + (m 18 (((r2 89 k).toNat : Nat) : Int) + m 13 1)) := by
        refine ⟨h41, hN84, fun k hk => ?_⟩
        obtain ⟨t, d, ht, hd, e1, e2⟩ := tab_all hK12 hTab hN k hk
        obtain ⟨⟨a0, a2, a3, a4⟩, b1, ⟨c1, c2⟩, ⟨d1, d2⟩, -, f1, f2⟩ := hT t ht
        have e2' : r2 90 k = 24 * (d : Int) + m 21 t := e2
        refine ⟨t, by omega, e1, ?_⟩
        dsimp only
        rw [g74 _, g74 _, g71, g70, g19, a0, a4, d1, d2, e1, Int.toNat_natCast, t4]
        refine ⟨b1, (Int.toNat_of_nonneg c2.1).symm, (Int.toNat_of_nonneg c1.1).symm, (Int.add_zero _).symm, ?_, f2, ⟨t5, t6⟩, ?_⟩
        · exact cr_b e2' hd f1
        · exact cr_s
      have per : ∀ k : Nat, k < N → (m 16 (((r2 89 k).toNat : Nat) : Int)).toNat < 8 ∧ (m 17 (((r2 89 k).toNat : Nat) : Int)).toNat < 8 ∧ (0 ≤ r2 90 k ∧ r2 90 k < 168) ∧ 0 ≤ m 18 (((r2 89 k).toNat : Nat) : Int) := fun k hk => by
        obtain ⟨t, d, ht, hd, e1, e2⟩ := tab_all hK12 hTab hN k hk
        obtain ⟨-, -, ⟨c1, c2⟩, -, -, f1, f2⟩ := hT t ht
        have e2' : r2 90 k = 24 * (d : Int) + m 21 t := e2
        rw [e1, Int.toNat_natCast]
        omega
      refine sp_c55 hD (fun x k hx => hf3 x k (by omega)) h3 (fun r4 L V hf4 hG => ?_)
      have hr4 : ∀ x k : Int, ¬ Scr x k → r4 x k = m x k := fun x k hx => by
        rw [hf4 x k (fun z => hx (scr_i (by omega))), hr2 x k (fun z => hx (scr_i (by omega)))]
      unfold wp_X11_crews_92
      refine nt (by decide) (nf rfl ?_)
      refine (H r4 hr4).2.2 rfl N _ _ _ _ L V (fun k hk => (per k hk).1) (fun k hk => (per k hk).2.1) (fun k hk => ?_) (fun k hk => ?_) (fun y T => ?_) (fun y T => ?_) hG
      · have := (per k hk).2.2.1
        show r2 90 k + 0 < 168
        omega
      · have h1 := (per k hk).2.2
        show 0 ≤ r2 90 k + (m 18 (((r2 89 k).toNat : Nat) : Int) + m 13 1)
        omega
      · exact cS_list (dy := fun t => m 20 t) (hr := fun t => m 21 t) (w := fun _ => 0) (o := fun t => (m 16 t).toNat) hK12 hTab hN y T
      · exact cS_list (dy := fun t => m 20 t) (hr := fun t => m 21 t) (w := fun t => m 18 t + m 13 1) (o := fun t => (m 17 t).toNat) hK12 hTab hN y T
    · refine ⟨1, ?_⟩
      have h41' : r3 67 41 = N := by rw [hf3 67 41 (by decide)]; exact h41
      have fin : wp_X11_crews_92 v (sumg (fun t => pd (m 20 t) 7 * m 18 t) K) N r3 post := by
        unfold wp_X11_crews_92
        rw [h41', hN]
        exact ⟨fun q0 => nt hv1 ((H r3 hr3).2.1 (by omega)), fun q0 => (H r3 hr3).1 q0⟩
      unfold wp_X11_crews_55
      exact ⟨fun _ => fin, fun _ => nt hv1 fin⟩
  unfold wp_X10_crews
  refine ⟨fun q => ?_, fun q => ⟨fun q2 => ?_, fun q2 => ?_⟩⟩
  · unfold wp_X11_crews
    exact sp_in (fun a _ => by omega) (fun _ => n0 ⟨rfl, hR⟩)
  · refine ⟨fun q3 => ⟨fun q4 => ?_, fun q4 => ?_⟩, fun q3 => ?_⟩
    · refine sp_dhC hK12 hK.symm (fun t ht => ⟨(hT t ht).2.2.2.2.1, (hT t ht).2.2.2.2.2.2⟩) ?_
      exact ref m _ w (fun _ _ _ => rfl) (by omega) (fun r hr => ⟨fun z => absurd z q3, fun _ => ⟨rfl, Rel.frame hr hR⟩, fun z => absurd z q4⟩)
    · subst q4
      refine sp_fewC hK12 (m := m) (dy := fun t => m 20 t) (hr := fun t => m 21 t) (tk := fun t => m 18 t) (fr := fun t => (m 16 t).toNat) (to := fun t => (m 17 t).toNat) (rest := m 13 1) ⟨hK.symm, rfl, ⟨t5, t6⟩, fun t ht => ?_⟩ (fun g X hX => ?_)
      · obtain ⟨-, -, ⟨c1, c2⟩, -, -, f1, f2⟩ := hT t ht
        exact ⟨⟨rfl, rfl, rfl, (Int.toNat_of_nonneg c1.1).symm, (Int.toNat_of_nonneg c2.1).symm⟩, f1, f2, by show (m 16 t).toNat < 8; omega, by show (m 17 t).toNat < 8; omega⟩
      · refine ref _ _ 1 (fun x k hx => by rw [mrow_ne hx]) (by decide) (fun r hr => ⟨fun z => absurd z (by decide), fun z => absurd z (by decide), fun _ N o e b rd L V ho he hb hrd hS hA hG => ⟨?_, Rel.frame hr hR⟩⟩)
        exact crew_eq ho he hb hrd (few_c hS hA hX) hG
    · refine sp_dutC hK12 hK.symm (fun t ht => (hT t ht).2.2.2.2.1) ?_
      exact ref m _ w (fun _ _ _ => rfl) (by omega) (fun r hr => ⟨fun _ => ⟨rfl, Rel.frame hr hR⟩, fun z => by omega, fun z => by omega⟩)
  · unfold wp_X11_crews
    exact sp_in (fun _ b => by omega) (fun _ => n0 ⟨rfl, hR⟩)
