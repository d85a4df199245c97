/-! the class's search for the best net; net -/
theorem sp_netOf {n : Nat} (hn : n ≤ 8) {c : Int} {m : Mem} {post : Int → Mem → Prop} (H : post (nC n c) m) : wp_X5_netOf c n m post := by
  have key : ∀ r a : Nat, a + r = n → wp_X5_netOf_5 post (r + 1) c n (fd (nC1 n c) a 0) a m := by
    intro r
    induction r with
    | zero => intro a ha; unfold wp_X5_netOf_5; refine bt (by omega) ?_; rw [show a = n by omega]; exact H
    | succ r ih =>
      intro a ha
      unfold wp_X5_netOf_5
      refine bf (by omega) (eqm (eqm (eqm (eqm ?_))))
      rw [i1 a (by omega)]
      have := ih (a + 1) (by omega)
      rw [← i1 a (by omega)] at this
      have e : fd (nC1 n c) (a + 1) 0 = nC1 n c a (fd (nC1 n c) a 0) := rfl
      rw [e] at this
      unfold nC1 at this
      rw [i1 a (by omega)] at this
      exact this
  exact ⟨n + 1, key n 0 (by omega)⟩
theorem shb {n : Nat} (hn : 2 ≤ n ∧ n ≤ 4) : shl32 1 (w32 (w32 ((n : Int) - 1) * (n : Int))) = ((2 ^ (n * (n - 1)) : Nat) : Int) ∧ 2 ^ (n * (n - 1)) ≤ 4096 := by
  rcases (show n = 2 ∨ n = 3 ∨ n = 4 by omega) with rfl | rfl | rfl <;> decide +kernel
theorem sp_find42 {n : Nat} (hn : 2 ≤ n ∧ n ≤ 4) {m : Mem} {post : Mem → Prop} (h0 : m 1 0 = n) (he : 0 ≤ m 43 0 ∧ m 43 0 ≤ 99) (hO : ∀ r : Int, An n r → NOk n (m 2) (m 44) r) {b : Int} (hb : shl32 1 b = ((2 ^ (n * (n - 1)) : Nat) : Int)) (H : ∀ m' : Mem, (∀ c i : Int, ¬ (c = 46 ∨ (c = 43 ∧ (i = 3 ∨ i = 4))) → m' c i = m c i) → Best (Al n (m 45)) (ncost n (m 43 0) (m 2) (m 44)) (m' 43 3) (m' 43 4) → post (mset m' 43 5 1)) (e3 : m 43 3 = -1) (e4 : m 43 4 = -1) : ∃ k : Nat, wp_X5_findBest_42 post k b 0 m := by
  have hn8 : n ≤ 8 := by omega
  have hle := (shb hn).2
  have key : ∀ (r c : Nat) (m' : Mem), c + r = 2 ^ (n * (n - 1)) → (∀ x i : Int, ¬ (x = 46 ∨ (x = 43 ∧ (i = 3 ∨ i = 4))) → m' x i = m x i) → Best (fun v => Al n (m 45) v ∧ ∃ c' : Nat, c' < c ∧ v = nC n c') (ncost n (m 43 0) (m 2) (m 44)) (m' 43 3) (m' 43 4) → wp_X5_findBest_42 post (r + 1) b c m' := by
    intro r
    induction r with
    | zero =>
      intro c m' hc f hB
      unfold wp_X5_findBest_42
      rw [hb]
      refine bt (by omega) (eqm (H m' f (best_cg (fun v => ⟨fun z => z.1, fun z => ⟨z, ?_⟩⟩) hB)))
      obtain ⟨x, x0, x1, x2⟩ := cod_C hn z.1 z.2.1
      have x1' : x < ((2 ^ (n * (n - 1)) : Nat) : Int) := by rw [Int.natCast_pow]; exact x1
      exact ⟨x.toNat, by omega, by rw [show ((x.toNat : Nat) : Int) = x by omega]; exact x2.symm⟩
    | succ r ih =>
      intro c m' hc f hB
      have f0 : m' 1 0 = n := by rw [f 1 0 (by omega)]; exact h0
      have hcr : 0 ≤ (c : Int) ∧ (c : Int) < 2 ^ (n * (n - 1)) := by
        have : (c : Int) < ((2 ^ (n * (n - 1)) : Nat) : Int) := by omega
        rw [Int.natCast_pow] at this
        exact ⟨by omega, this⟩
      have hCA := nC_A hn hcr
      have hr64 : r64 (nC n c) := by unfold r64; omega
      have nxt := fun m3 => ih (c + 1) m3 (by omega)
      clear ih
      have spl : ∀ v : Int, (Al n (m 45) v ∧ ∃ c' : Nat, c' < c + 1 ∧ v = nC n c') ↔ ((Al n (m 45) v ∧ ∃ c' : Nat, c' < c ∧ v = nC n c') ∨ (Al n (m 45) v ∧ v = nC n c)) := by
        intro v
        constructor
        · rintro ⟨a, c', b, d⟩
          by_cases q : c' = c
          · rw [q] at d; exact Or.inr ⟨a, d⟩
          · exact Or.inl ⟨a, c', by omega, d⟩
        · rintro (⟨a, c', b, d⟩ | ⟨a, b⟩)
          · exact ⟨a, c', by omega, d⟩
          · exact ⟨a, c, by omega, b⟩
      have r45 : m' 45 = m 45 := funext fun i => f 45 i (by omega)
      have r44 : m' 44 = m 44 := funext fun i => f 44 i (by omega)
      have r2 : m' 2 = m 2 := funext fun i => f 2 i (by omega)
      have r430 : m' 43 0 = m 43 0 := f 43 0 (by omega)
      unfold wp_X5_findBest_42
      rw [hb, f0]
      refine bf (by omega) (sp_netOf hn8 ?_)
      rw [f0]
      refine sp_fits hn8 (fun hF => z1 ?_) (fun hF => z0 ?_)
      · rw [r45] at hF
        have hA : Al n (m 45) (nC n c) := ⟨hr64, hCA.1, hF⟩
        refine sp_costOfC hn8 f0 (by rw [r430]; exact he) (by rw [r2, r44]; exact hO _ hCA.1) (fun m2 g2 => ?_)
        rw [r430, r2, r44]
        have spl' : ∀ v : Int, (Al n (m 45) v ∧ ∃ c' : Nat, c' < c + 1 ∧ v = nC n c') ↔ ((Al n (m 45) v ∧ ∃ c' : Nat, c' < c ∧ v = nC n c') ∨ v = nC n c) := fun v => (spl v).trans ⟨fun z => z.elim Or.inl (fun z => Or.inr z.2), fun z => z.elim Or.inl (fun z => Or.inr ⟨by rw [z]; exact hA, z⟩)⟩
        have f2 : ∀ x i : Int, ¬ (x = 46 ∨ (x = 43 ∧ (i = 3 ∨ i = 4))) → m2 x i = m x i := fun x i hx => by rw [g2 x i (fun q => hx (Or.inl q)), f x i hx]
        have e52 : m2 43 3 = m' 43 3 := g2 43 3 (by omega)
        have e51 : m2 43 4 = m' 43 4 := g2 43 4 (by omega)
        rw [← e52, ← e51] at hB
        clear spl f g2 e52 e51 r45 r44 r2 r430 f0
        have kp : (ncost n (m 43 0) (m 2) (m 44) (nC n c) = -1 ∨ (m2 43 3 ≠ -1 ∧ (m2 43 3 < ncost n (m 43 0) (m 2) (m 44) (nC n c) ∨ (m2 43 3 = ncost n (m 43 0) (m 2) (m 44) (nC n c) ∧ (bcl (m2 43 4) < bcl (nC n c) ∨ (bcl (m2 43 4) = bcl (nC n c) ∧ m2 43 4 ≤ nC n c)))))) → wp_X5_findBest_42 post (r + 1) b ((c + 1 : Nat) : Int) m2 := fun h => nxt m2 f2 (best_k spl' hB h)
        have nw : ncost n (m 43 0) (m 2) (m 44) (nC n c) ≠ -1 → (m2 43 3 = -1 ∨ ncost n (m 43 0) (m 2) (m 44) (nC n c) < m2 43 3 ∨ (ncost n (m 43 0) (m 2) (m 44) (nC n c) = m2 43 3 ∧ (bcl (nC n c) < bcl (m2 43 4) ∨ (bcl (nC n c) = bcl (m2 43 4) ∧ nC n c ≤ m2 43 4)))) → wp_X5_findBest_42 post (r + 1) b ((c + 1 : Nat) : Int) (mset (mset m2 43 3 (ncost n (m 43 0) (m 2) (m 44) (nC n c))) 43 4 (nC n c)) := fun h h' => by
          refine nxt _ (fun x i hx => ?_) ?_
          · rw [mset_ne (fun q => hx (by omega)), mset_ne (fun q => hx (by omega))]; exact f2 x i hx
          · rw [mset_same, mset_ne (by omega), mset_same]
            exact best_n spl' hB h h'
        have hbn : m2 43 3 ≠ -1 → m2 43 4 < nC n c := fun h => by
          rcases hB with ⟨a, -⟩ | ⟨-, b, -⟩
          · exact absurd a h
          · obtain ⟨-, c', c1, c2⟩ := b
            rw [c2]
            exact nC_m hn (by omega) (by omega) hcr.2
        clear nxt hB spl' f2
        generalize ncost n (m 43 0) (m 2) (m 44) (nC n c) = x at kp nw ⊢
        show wp_X5_weigh (nC n c) x m2 (fun m82 => wp_X5_findBest_42 post (r + 1) b (w32 ((c : Int) + 1)) m82)
        rw [i1b c (by omega)]
        unfold wp_X5_weigh wp_X5_weigh_25
        refine ⟨fun q => sp_bcl (sp_bcl ⟨fun q1 => ?_, fun q1 => ?_⟩), fun q => kp (Or.inl q)⟩
        · refine ⟨fun q2 => eqm (eqm (nw q (Or.inl q2))), fun q2 => ⟨fun q3 => eqm (eqm (nw q (Or.inr (Or.inl q3)))), fun q3 => ⟨fun q4 => kp (Or.inr ⟨q2, Or.inl (by omega)⟩), fun q4 => z0 (kp (Or.inr ⟨q2, Or.inr ⟨q4.symm, ?_⟩⟩))⟩⟩⟩
          have := hbn q2
          omega
        · refine ⟨fun q2 => eqm (eqm (nw q (Or.inl q2))), fun q2 => ⟨fun q3 => eqm (eqm (nw q (Or.inr (Or.inl q3)))), fun q3 => ⟨fun q4 => kp (Or.inr ⟨q2, Or.inl (by omega)⟩), fun q4 => z1 (eqm (eqm (nw q (Or.inr (Or.inr ⟨q4, Or.inl (by omega)⟩)))))⟩⟩⟩
      · show wp_X5_findBest_42 post (r + 1) b (w32 ((c : Int) + 1)) m'
        rw [i1b c (by omega)]
        rw [r45] at hF
        exact nxt m' f (best_cg (fun v => ⟨fun z => (spl v).mpr (Or.inl z), fun z => ((spl v).mp z).elim id (fun z => absurd (by rw [← z.2]; exact z.1.2.2) hF)⟩) hB)
  refine ⟨2 ^ (n * (n - 1)) + 1, key (2 ^ (n * (n - 1))) 0 m (by omega) (fun _ _ _ => rfl) (Or.inl ⟨e3, e4, fun v q => ?_⟩)⟩
  obtain ⟨-, c', b, -⟩ := q
  omega
theorem NBr_of {n : Nat} (hn : 2 ≤ n ∧ n ≤ 4) {m : Mem} (hR : Rel m) (h0 : m 1 0 = n) {bc bn : Int} (hB : Best (Al n (m 45)) (ncost n (m 43 0) (m 2) (m 44)) bc bn) : NBr (m 67 0) (m 67 24) bc bn (m 68) (m 81) (m 82) := by
  intro m' a0 a1 a2 a3 a4 post H
  have h3 := hR.n
  have ht := hR.2.2.2.2.2.2.1
  refine sp_seek hn ⟨ht.2.1, ht.2.2.1⟩ (mi := m 2) (ld := m 44) (tr := m 45) (fun r hr => nok_rel hR h0 (al_b (by omega) hr)) (by omega) (by rw [a4]; exact ht.1) (fun i j i1 i2 j1 j2 ij => ?_) (fun i j i1 i2 j1 j2 => ?_) (fun a ha => ?_) (fun m2 f hB2 => ?_)
  · rw [a1]; exact (hR.1.2.2.2 i j i1 (by omega) j1 (by omega) ij).1
  · rw [a2]; exact (ht.2.2.2.2.1 i j i1 (by omega) j1 (by omega)).1
  · rw [a3]; exact (ht.2.2.2.2.2 (a : Int) (by omega) (by omega)).1
  · have u := best_u hB2 hB
    exact H m2 f u.1 u.2
theorem sp_findBest {n : Nat} (hn : 2 ≤ n ∧ n ≤ 4) {m : Mem} (hR : Rel m) (h0 : m 1 0 = n) {post : Mem → Prop} (H : ∀ m' : Mem, Rel m' → m' 1 0 = m 1 0 → NBr (m' 67 0) (m' 67 24) (m' 43 3) (m' 43 4) (m' 68) (m' 81) (m' 82) → post m') : wp_X5_findBest m post := by
  have ht := hR.2.2.2.2.2.2.1
  have hkn := ht.2.2.2.1
  unfold wp_X5_findBest
  refine ⟨fun z => H m hR rfl (hR.2.2.2.2.2.2.2.1 (by omega) (by omega)), fun z => bt (by omega) (eqm (eqm (eqm ?_)))⟩
  have q1 : mset (mset m 43 3 (-1)) 43 4 (-1) 1 0 = n := by rw [mset_ne (by omega), mset_ne (by omega)]; exact h0
  have q43 : mset (mset m 43 3 (-1)) 43 4 (-1) 43 0 = m 43 0 := by rw [mset_ne (by omega), mset_ne (by omega)]
  have q2 : mset (mset m 43 3 (-1)) 43 4 (-1) 2 = m 2 := by rw [mset_r (by decide), mset_r (by decide)]
  have q44 : mset (mset m 43 3 (-1)) 43 4 (-1) 44 = m 44 := by rw [mset_r (by decide), mset_r (by decide)]
  have q45 : mset (mset m 43 3 (-1)) 43 4 (-1) 45 = m 45 := by rw [mset_r (by decide), mset_r (by decide)]
  refine sp_find42 hn q1 (by rw [q43]; exact ⟨ht.2.1, ht.2.2.1⟩) (fun r hr => by rw [q2, q44]; exact nok_rel hR h0 (al_b (by omega) hr)) (by rw [q1]; exact (shb hn).1) (fun m1 f hB => ?_) (by rw [mset_ne (by omega), mset_same]) (mset_same _ _ _ _)
  rw [q43, q2, q44, q45] at hB
  have f1 : ∀ c i : Int, ¬ (c = 46 ∨ (c = 43 ∧ (i = 3 ∨ i = 4))) → m1 c i = m c i := fun c i hc => by rw [f c i hc, mset_ne (by omega), mset_ne (by omega)]
  obtain ⟨m', hm'⟩ : ∃ m' : Mem, m' = mset m1 43 5 1 := ⟨_, rfl⟩
  have hv : ∀ c i : Int, ¬ (c = 46 ∨ (c = 43 ∧ (i = 3 ∨ i = 4 ∨ i = 5))) → m' c i = m c i := fun c i hc => by rw [hm', mset_ne (by omega), f1 c i (by omega)]
  have hr : ∀ c : Int, (∀ i : Int, ¬ (c = 46 ∨ (c = 43 ∧ (i = 3 ∨ i = 4 ∨ i = 5)))) → m' c = m c := fun c hc => funext fun i => hv c i (hc i)
  have e5 : m' 43 5 = 1 := by rw [hm', mset_same]
  have e3 : m' 43 3 = m1 43 3 := by rw [hm', mset_ne (by omega)]
  have e4 : m' 43 4 = m1 43 4 := by rw [hm', mset_ne (by omega)]
  rw [← e3, ← e4] at hB
  rw [← hm']
  have hN := NBr_of hn hR h0 hB
  have hN' : NBr (m' 67 0) (m' 67 24) (m' 43 3) (m' 43 4) (m' 68) (m' 81) (m' 82) := by
    rw [hv 67 0 (by omega), hv 67 24 (by omega), hr 68 (fun i => by omega), hr 81 (fun i => by omega), hr 82 (fun i => by omega)]
    exact hN
  refine H m' ?_ (hv 1 0 (by omega)) hN'
  obtain ⟨h1, h2, h3, h4, h5, h6, h7, h8, h9, h10, h11⟩ := hR
  have g1 : RLand (m' 1 0) (m' 67 0) (m' 2) (m' 68) := by rw [hv 1 0 (by omega), hv 67 0 (by omega), hr 2 (fun i => by omega), hr 68 (fun i => by omega)]; exact h1
  have g2 : RPage (m' 4 0) (m' 67 2) (m' 5) (m' 69) := by rw [hv 4 0 (by omega), hv 67 2 (by omega), hr 5 (fun i => by omega), hr 69 (fun i => by omega)]; exact h2
  have g3 : RBlk (m' 1 0) (m' 6 0) (m' 67 4) (m' 7) (m' 8) (m' 9) (m' 10) (m' 70) (m' 71) (m' 72) (m' 73) (m' 11) := by rw [hv 1 0 (by omega), hv 6 0 (by omega), hv 67 4 (by omega), hr 7 (fun i => by omega), hr 8 (fun i => by omega), hr 9 (fun i => by omega), hr 10 (fun i => by omega), hr 70 (fun i => by omega), hr 71 (fun i => by omega), hr 72 (fun i => by omega), hr 73 (fun i => by omega), hr 11 (fun i => by omega)]; exact h3
  have g4 : RTrn (m' 6 0) (m' 28 0) (m' 13 0) (m' 67 9) (m' 13 1) (m' 67 19) (m' 14) (m' 15) (m' 16) (m' 17) (m' 18) (m' 19) (m' 20) (m' 21) (m' 22) (m' 23) (m' 24) (m' 25) (m' 26) (m' 7) (m' 8) (m' 74) (m' 75) (m' 76) := by rw [hv 6 0 (by omega), hv 28 0 (by omega), hv 13 0 (by omega), hv 67 9 (by omega), hv 13 1 (by omega), hv 67 19 (by omega), hr 14 (fun i => by omega), hr 15 (fun i => by omega), hr 16 (fun i => by omega), hr 17 (fun i => by omega), hr 18 (fun i => by omega), hr 19 (fun i => by omega), hr 20 (fun i => by omega), hr 21 (fun i => by omega), hr 22 (fun i => by omega), hr 23 (fun i => by omega), hr 24 (fun i => by omega), hr 25 (fun i => by omega), hr 26 (fun i => by omega), hr 7 (fun i => by omega), hr 8 (fun i => by omega), hr 74 (fun i => by omega), hr 75 (fun i => by omega), hr 76 (fun i => by omega)]; exact h4
  have g5 : RTrf (m' 1 0) (m' 13 0) (m' 28 0) (m' 67 18) (m' 28 1) (m' 67 15) (m' 28 4) (m' 67 13) (m' 29) (m' 30) (m' 78) (m' 79) (m' 31) (m' 32) (m' 33) (m' 34) (m' 35) (m' 36) (m' 77) (m' 76) := by rw [hv 1 0 (by omega), hv 13 0 (by omega), hv 28 0 (by omega), hv 67 18 (by omega), hv 28 1 (by omega), hv 67 15 (by omega), hv 28 4 (by omega), hv 67 13 (by omega), hr 29 (fun i => by omega), hr 30 (fun i => by omega), hr 78 (fun i => by omega), hr 79 (fun i => by omega), hr 31 (fun i => by omega), hr 32 (fun i => by omega), hr 33 (fun i => by omega), hr 34 (fun i => by omega), hr 35 (fun i => by omega), hr 36 (fun i => by omega), hr 77 (fun i => by omega), hr 76 (fun i => by omega)]; exact h5
  have g6 : RRow (m' 37 0) (m' 67 20) (m' 40) (m' 80) := by rw [hv 37 0 (by omega), hv 67 20 (by omega), hr 40 (fun i => by omega), hr 80 (fun i => by omega)]; exact h6
  have g9 : REmp (m' 47 0) (m' 67 25) (m' 48) (m' 83) := by rw [hv 47 0 (by omega), hv 67 25 (by omega), hr 48 (fun i => by omega), hr 83 (fun i => by omega)]; exact h9
  have g10 : RLeg (m' 59 0) (m' 67 27) (m' 60) (m' 61) (m' 84) (m' 85) := by rw [hv 59 0 (by omega), hv 67 27 (by omega), hr 60 (fun i => by omega), hr 61 (fun i => by omega), hr 84 (fun i => by omega), hr 85 (fun i => by omega)]; exact h10
  have g11 : RDet (m' 63 0) (m' 67 30) := by rw [hv 63 0 (by omega), hv 67 30 (by omega)]; exact h11
  refine ⟨g1, g2, g3, g4, g5, g6, ?_, fun _ _ => hN', g9, g10, g11⟩
  rw [hv 43 0 (by omega), hv 67 24 (by omega), e5, hr 44 (fun i => by omega), hr 81 (fun i => by omega), hr 45 (fun i => by omega), hr 82 (fun i => by omega)]
  exact ⟨h7.1, h7.2.1, h7.2.2.1, Or.inr rfl, h7.2.2.2.2⟩
theorem op_net {m : Mem} (hR : Rel m) (w : Int) : wp_X10_net w m (fun r m1 => wp_X11_net w m1 (fun r2 m2 => r = r2 ∧ Rel m2)) := by
  obtain ⟨n1', n2, n3⟩ := hR.n
  obtain ⟨n, hn⟩ := Int.eq_ofNat_of_zero_le (show 0 ≤ m 1 0 by omega)
  have hn8 : n ≤ 8 := by omega
  have bad : ¬ (0 ≤ w ∧ w ≤ 2) → wp_X11_net w m (fun r2 m2 => -102 = r2 ∧ Rel m2) := fun q => by
    unfold wp_X11_net
    exact sp_in (fun a b => absurd ⟨a, b⟩ q) (fun _ => n0 ⟨rfl, hR⟩)
  unfold wp_X10_net
  refine ⟨fun q => bad (by omega), fun q0 => ⟨fun q1 => ⟨fun q2 => ⟨fun q3 => ?_, fun q3 => ?_⟩, fun q2 => ?_⟩, fun q => bad (by omega)⟩⟩
  · refine sp_findBest (n := n) (by omega) hR hn (fun m1 hR1 e1 hN => ?_)
    have hN := hR1.n
    have fin : wp_X11_net w m1 (fun r2 m2 => (if w = 0 then m1 43 3 else m1 43 4) = r2 ∧ Rel m2) := by
      unfold wp_X11_net
      refine sp_in (fun _ _ => n1 (nt q2 (bt (by omega) ?_))) (fun q => absurd ⟨by omega, q1⟩ q)
      rename_i hNB _ _
      refine hNB m1 rfl rfl rfl rfl rfl _ (fun m2 f b1 b2 => ?_)
      have hR2 : Rel m2 := hR1.frame (fun c i hc => f c i (fun q => hc (by unfold ScrS at q; unfold Scr; omega)))
      by_cases hw : w = 0
      · rw [if_pos hw]; exact nf hw ⟨b1.symm, hR2⟩
      · rw [if_neg hw]; exact nt hw ⟨b2.symm, hR2⟩
    by_cases hw : w = 0
    · rw [if_pos hw] at fin; exact nf hw fin
    · rw [if_neg hw] at fin; exact nt hw fin
  · show wp_X11_net w m (fun r2 m2 => -103 = r2 ∧ Rel m2)
    unfold wp_X11_net
    exact sp_in (fun _ _ => n1 (nt q2 (bf (by omega) ⟨rfl, hR⟩))) (fun q => absurd ⟨by omega, q1⟩ q)
  · have hr := fun q hq hb => (an_b hn8 q hq).mp hb
    rw [hn]
    refine sp_full hn8 (sp_cost_C hR (fun _ _ _ => rfl) hn hr (fun m1 f1 => ?_))
    show wp_X11_net w m1 (fun r2 m2 => ncost n (m 43 0) (m 2) (m 44) (an n) = r2 ∧ Rel m2)
    unfold wp_X11_net
    refine sp_in (fun _ _ => n1 (nf q2 ?_)) (fun q => absurd ⟨by omega, q1⟩ q)
    refine sp_all hn8 (by rw [f1 67 0 (by unfold Scr; omega)]; omega) (sp_cost_M hR f1 hn hr (fun m2 g2 => ⟨rfl, Rel.frame (fun c i q => by rw [g2 c i (by unfold Scr at q; omega)]; exact f1 c i q) hR⟩))
