/-! pass -/
theorem hours_l {m : Mem} (hR : Rel m) : ∀ (k : Nat) (T : Int) (c : Mem), 0 ≤ T → T + k ≤ 2000 → CS m c → c 28 0 = T → (∃ r : Mem, Dy m T T c r) → ∃ c' : Mem, CS m c' ∧ c' 28 0 = T + k ∧ (∀ (post : Int → Mem → Prop) (n v : Nat), v + k = n → n ≤ 200 → post (T + k) c' → wp_X10_pass_35 post (k + 1) n v c) ∧ ∀ r : Mem, Dy m T T c r → ∃ r' : Mem, (∀ (post : Int → Mem → Prop) (n v : Nat), v + k = n → n ≤ 200 → post (T + k) r' → wp_X11_pass_31 post (k + 1) n v r) ∧ Dy m (T + k) (T + k) c' r' ∧ ∀ x i : Int, x < 67 → r' x i = r x i := by
  intro k
  induction k with
  | zero =>
    intro T c hT hT2 hC hc hex
    have e : T + ((0 : Nat) : Int) = T := by omega
    rw [e]
    refine ⟨c, hC, hc, fun post n v hv _ hp => ?_, fun r hD => ⟨r, fun post n v hv _ hp => ?_, hD, fun _ _ _ => rfl⟩⟩
    · unfold wp_X10_pass_35
      rw [hc]
      exact bt (by omega) hp
    · unfold wp_X11_pass_31
      rw [hD.2.2.2.1]
      exact bt (by omega) hp
  | succ k ih =>
    intro T c hT hT2 hC hc hex
    obtain ⟨c1, p1, p2⟩ := hour_l hR (T := T) ⟨hT, by omega⟩ c hC hc hex
    have hex1 : ∃ r : Mem, Dy m (T + 1) (T + 1) c1 r := by
      obtain ⟨r, hr⟩ := hex
      obtain ⟨r', -, q, -⟩ := p2 r hr
      exact ⟨r', q⟩
    have hC1 : CS m c1 ∧ c1 28 0 = T + 1 := by
      obtain ⟨r, hr⟩ := hex1
      exact ⟨hr.1, hr.2.1⟩
    obtain ⟨c', q1, q2, q3, q4⟩ := ih (T + 1) c1 (by omega) (by omega) hC1.1 hC1.2 hex1
    have e : T + ((k + 1 : Nat) : Int) = T + 1 + (k : Int) := by omega
    rw [e]
    refine ⟨c', q1, q2, fun post n v hv hn hp => ?_, fun r hD => ?_⟩
    · have nx := q3 post n (v + 1) (by omega) hn hp
      have ei := i1 v (by omega)
      have hle : ¬ (n : Int) ≤ v := by omega
      unfold wp_X10_pass_35
      rw [ei]
      exact bf hle (p1 _ nx)
    · obtain ⟨r1, s1, s2, s3⟩ := p2 r hD
      obtain ⟨r', t1, t2, t3⟩ := q4 r1 s2
      refine ⟨r', fun post n v hv hn hp => ?_, t2, fun x i hx => by rw [t3 x i hx, s3 x i hx]⟩
      have nx := t1 post n (v + 1) (by omega) hn hp
      have ei := i1 v (by omega)
      have hle : ¬ (n : Int) ≤ v := by omega
      unfold wp_X11_pass_31
      rw [ei]
      exact bf hle (s1 _ nx)
theorem dy_of {m r : Mem} (hR : Rel m) (hM : ∀ x i : Int, 67 ≤ x → r x i = m x i) : Dy m (m 28 0) (m 28 0) m r := by
  obtain ⟨h1, h2, h3, h4, h5, h6, h7, h8, h9, h10, h11⟩ := hR
  have e75 : r 75 = m 75 := funext fun i => hM 75 i (by decide)
  have e76 : r 76 = m 76 := funext fun i => hM 76 i (by decide)
  have e77 : r 77 = m 77 := funext fun i => hM 77 i (by decide)
  refine ⟨fun _ _ _ => rfl, rfl, fun x i hx _ => hM x i hx, by rw [hM 67 18 (by decide)]; exact h5.1, fun i i0 i1 => ?_, fun i i0 i1 => ?_⟩
  · have hi := h4.2.2.2.2.2.2 i i0 i1
    unfold DT1
    rw [e75, e76]
    exact ⟨⟨hi.2.2.2.2.1.1, hi.2.2.2.2.1.2.1, hi.2.2.2.2.1.2.2, hi.2.2.1.2.2⟩, hi.2.2.2.2.2⟩
  · have hi := h5.2.2.2.2.2.2.2.2.2.2 i i0 i1
    unfold WgE
    rw [e76, e77]
    exact hi
theorem rel_dy {m c r : Mem} (hR : Rel m) {T : Int} (hT : 0 ≤ T ∧ T ≤ 2000) (h : Dy m T T c r) (hr : ∀ x i : Int, x < 67 → r x i = c x i) : Rel r := by
  obtain ⟨d1, d2, d3, d4, d5, d6⟩ := h
  have hv : ∀ x i : Int, ¬ ((22 ≤ x ∧ x ≤ 26) ∨ x = 31 ∨ (33 ≤ x ∧ x ≤ 36) ∨ (x = 28 ∧ i = 0) ∨ x = 75 ∨ x = 76 ∨ x = 77 ∨ (x = 67 ∧ i = 18)) → r x i = m x i := fun x i hx => by
    by_cases q : x < 67
    · rw [hr x i q]; exact d1 x i (by omega)
    · exact d3 x i (by omega) (by omega)
  have hr' : ∀ x : Int, (∀ i : Int, ¬ ((22 ≤ x ∧ x ≤ 26) ∨ x = 31 ∨ (33 ≤ x ∧ x ≤ 36) ∨ (x = 28 ∧ i = 0) ∨ x = 75 ∨ x = 76 ∨ x = 77 ∨ (x = 67 ∧ i = 18))) → r x = m x := fun x hx => funext fun i => hv x i (hx i)
  have c22 : r 22 = c 22 := funext fun i => hr 22 i (by decide)
  have c23 : r 23 = c 23 := funext fun i => hr 23 i (by decide)
  have c24 : r 24 = c 24 := funext fun i => hr 24 i (by decide)
  have c25 : r 25 = c 25 := funext fun i => hr 25 i (by decide)
  have c26 : r 26 = c 26 := funext fun i => hr 26 i (by decide)
  have c31 : r 31 = c 31 := funext fun i => hr 31 i (by decide)
  have c33 : r 33 = c 33 := funext fun i => hr 33 i (by decide)
  have c34 : r 34 = c 34 := funext fun i => hr 34 i (by decide)
  have c35 : r 35 = c 35 := funext fun i => hr 35 i (by decide)
  have c36 : r 36 = c 36 := funext fun i => hr 36 i (by decide)
  have c28 : r 28 0 = T := by rw [hr 28 0 (by decide)]; exact d2
  obtain ⟨m', hm'⟩ : ∃ m' : Mem, m' = r := ⟨r, rfl⟩
  rw [← hm'] at hv hr' c22 c23 c24 c25 c26 c31 c33 c34 c35 c36 c28 ⊢
  have d4' : m' 67 18 = T := by rw [hm']; exact d4
  rw [← hm'] at d5 d6
  clear hr d1 d3
  have hr := hr'
  obtain ⟨h1, h2, h3, h4, h5, h6, h7, h8, h9, h10, h11⟩ := hR
  have g1 : RLand (m' 1 0) (m' 67 0) (m' 2) (m' 68) := by rw [hv 1 0 (by omega), hv 67 0 (by omega), hr 2 (fun i => by omega), hr 68 (fun i => by omega)]; exact h1
  have g2 : RPage (m' 4 0) (m' 67 2) (m' 5) (m' 69) := by rw [hv 4 0 (by omega), hv 67 2 (by omega), hr 5 (fun i => by omega), hr 69 (fun i => by omega)]; exact h2
  have g3 : RBlk (m' 1 0) (m' 6 0) (m' 67 4) (m' 7) (m' 8) (m' 9) (m' 10) (m' 70) (m' 71) (m' 72) (m' 73) (m' 11) := by rw [hv 1 0 (by omega), hv 6 0 (by omega), hv 67 4 (by omega), hr 7 (fun i => by omega), hr 8 (fun i => by omega), hr 9 (fun i => by omega), hr 10 (fun i => by omega), hr 70 (fun i => by omega), hr 71 (fun i => by omega), hr 72 (fun i => by omega), hr 73 (fun i => by omega), hr 11 (fun i => by omega)]; exact h3
  have g6 : RRow (m' 37 0) (m' 67 20) (m' 40) (m' 80) := by rw [hv 37 0 (by omega), hv 67 20 (by omega), hr 40 (fun i => by omega), hr 80 (fun i => by omega)]; exact h6
  have g7 : RNet (m' 43 0) (m' 67 24) (m' 43 5) (m' 44) (m' 81) (m' 45) (m' 82) := by rw [hv 43 0 (by omega), hv 67 24 (by omega), hv 43 5 (by omega), hr 44 (fun i => by omega), hr 81 (fun i => by omega), hr 45 (fun i => by omega), hr 82 (fun i => by omega)]; exact h7
  have g8 : (m' 43 5) = 1 → (m' 1 0) ≤ 4 → NBr (m' 67 0) (m' 67 24) (m' 43 3) (m' 43 4) (m' 68) (m' 81) (m' 82) := by rw [hv 43 5 (by omega), hv 1 0 (by omega), hv 67 0 (by omega), hv 67 24 (by omega), hv 43 3 (by omega), hv 43 4 (by omega), hr 68 (fun i => by omega), hr 81 (fun i => by omega), hr 82 (fun i => by omega)]; exact h8
  have g9 : REmp (m' 47 0) (m' 67 25) (m' 48) (m' 83) := by rw [hv 47 0 (by omega), hv 67 25 (by omega), hr 48 (fun i => by omega), hr 83 (fun i => by omega)]; exact h9
  have g10 : RLeg (m' 59 0) (m' 67 27) (m' 60) (m' 61) (m' 84) (m' 85) := by rw [hv 59 0 (by omega), hv 67 27 (by omega), hr 60 (fun i => by omega), hr 61 (fun i => by omega), hr 84 (fun i => by omega), hr 85 (fun i => by omega)]; exact h10
  have g11 : RDet (m' 63 0) (m' 67 30) := by rw [hv 63 0 (by omega), hv 67 30 (by omega)]; exact h11
  refine ⟨g1, g2, g3, ?_, ?_, g6, g7, g8, g9, g10, g11⟩
  · rw [hv 6 0 (by omega), c28, hv 13 0 (by omega), hv 67 9 (by omega), hv 13 1 (by omega), hv 67 19 (by omega), hr 14 (fun i => by omega), hr 15 (fun i => by omega), hr 16 (fun i => by omega), hr 17 (fun i => by omega), hr 18 (fun i => by omega), hr 19 (fun i => by omega), hr 20 (fun i => by omega), hr 21 (fun i => by omega), c22, c23, c24, c25, c26, hr 7 (fun i => by omega), hr 8 (fun i => by omega), hr 74 (fun i => by omega)]
    refine ⟨h4.1, h4.2.1, h4.2.2.1, h4.2.2.2.1, h4.2.2.2.2.1, h4.2.2.2.2.2.1, fun i i0 i1 => ?_⟩
    have hi := h4.2.2.2.2.2.2 i i0 i1
    obtain ⟨⟨e1, e2, e3, e4⟩, e5⟩ := d5 i i0 i1
    exact ⟨hi.1, hi.2.1, ⟨hi.2.2.1.1, hi.2.2.1.2.1, e4⟩, hi.2.2.2.1, ⟨e1, e2, e3⟩, e5⟩
  · rw [hv 1 0 (by omega), hv 13 0 (by omega), c28, d4', hv 28 1 (by omega), hv 67 15 (by omega), hv 28 4 (by omega), hv 67 13 (by omega), hr 29 (fun i => by omega), hr 30 (fun i => by omega), hr 78 (fun i => by omega), hr 79 (fun i => by omega), c31, hr 32 (fun i => by omega), c33, c34, c35, c36]
    exact ⟨rfl, hT.1, hT.2, h5.2.2.2.1, h5.2.2.2.2.1, h5.2.2.2.2.2.1, h5.2.2.2.2.2.2.1, h5.2.2.2.2.2.2.2.1, h5.2.2.2.2.2.2.2.2.1, h5.2.2.2.2.2.2.2.2.2.1, fun i i0 i1 => d6 i i0 i1⟩
theorem op_pass {m : Mem} (hR : Rel m) (n : Int) : wp_X10_pass n m (fun r m1 => wp_X11_pass n m1 (fun r2 m2 => r = r2 ∧ Rel m2)) := by
  have h5 := hR.2.2.2.2.1
  have e18 : m 67 18 = m 28 0 := h5.1
  have hcl : 0 ≤ m 28 0 ∧ m 28 0 ≤ 2000 := ⟨h5.2.1, h5.2.2.1⟩
  clear h5
  have bad : ¬ (1 ≤ n ∧ n ≤ 200) → wp_X11_pass n m (fun r2 m2 => -102 = r2 ∧ Rel m2) := fun q => by
    unfold wp_X11_pass
    exact sp_in (fun a b => absurd ⟨a, b⟩ q) (fun _ => n0 ⟨rfl, hR⟩)
  unfold wp_X10_pass
  refine ⟨fun q => bad (by omega), fun q => ⟨fun q2 => ?_, fun q2 => bad (by omega)⟩⟩
  have ew : w32 (m 28 0 + n) = m 28 0 + n := w32_i (by omega)
  rw [ew]
  refine ⟨fun q3 => ?_, fun q3 => ?_⟩
  · obtain ⟨k, rfl⟩ := Int.eq_ofNat_of_zero_le (show 0 ≤ n by omega)
    have hk : k ≤ 200 := by omega
    obtain ⟨c', p1, p2, p3, p4⟩ := hours_l hR k (m 28 0) m hcl.1 q3 (fun _ _ _ => rfl) rfl ⟨m, dy_of hR (fun _ _ _ => rfl)⟩
    refine ⟨k + 1, p3 _ k 0 (Nat.zero_add _) hk ?_⟩
    have hcm : ∀ x i : Int, 67 ≤ x → c' x i = m x i := fun x i hx => p1 x i (by omega)
    obtain ⟨r', s1, s2, s3⟩ := p4 c' (dy_of hR hcm)
    unfold wp_X11_pass
    refine sp_in (fun _ _ => n1 ?_) (fun z => absurd ⟨by omega, q2⟩ z)
    rw [hcm 67 18 (by decide), e18, ew]
    refine bt q3 ⟨k + 1, s1 _ k 0 (Nat.zero_add _) hk ⟨rfl, ?_⟩⟩
    exact rel_dy hR ⟨by omega, q3⟩ s2 (fun x i hx => s3 x i hx)
  · show wp_X11_pass n m (fun r2 m2 => -103 = r2 ∧ Rel m2)
    unfold wp_X11_pass
    refine sp_in (fun _ _ => n1 ?_) (fun z => absurd ⟨by omega, q2⟩ z)
    rw [e18, ew]
    exact bf q3 ⟨rfl, hR⟩
