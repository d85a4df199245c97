/-! the reference's search for the best net -/
theorem i1b (j : Nat) (h : j < 1000000) : w32 ((j : Int) + 1) = ((j + 1 : Nat) : Int) := by unfold w32; omega
def Al (n : Nat) (tr : Int → Int) (v : Int) : Prop := r64 v ∧ An n v ∧ Fits n tr v
theorem al_b {n : Nat} (hn : n ≤ 8) {v : Int} (h : An n v) : ∀ q : Nat, q < 64 → b64 v q = 1 → q / 8 < n ∧ q % 8 < n ∧ q / 8 ≠ q % 8 := fun q hq hb => (an_b hn q hq).mp (sub_b h q hq hb)
theorem sp_isNet {n : Nat} (hn : n ≤ 8) {v : Int} (hv : r64 v) {tr : Int → Int} {m : Mem} {post : Int → Mem → Prop} (e0 : m 67 0 = n) (ht : ∀ a : Nat, a < n → m 82 a = tr a) (h1 : Al n tr v → post 1 m) (h0 : ¬ Al n tr v → post 0 m) : wp_X11_isNet v m post := by
  unfold wp_X11_isNet
  refine sp_all hn e0 ⟨fun z => ?_, fun z => ?_⟩
  · exact sp_isNet24 hn hv (Or.inl rfl) e0 ht (fun z2 => by omega) (fun _ => h0 (fun w => z ((lcmp_0 _).mpr w.2.1)))
  · exact sp_isNet24 hn hv (Or.inr rfl) e0 ht (fun _ w => h1 ⟨hv, (lcmp_0 _).mp z, w⟩) (fun w => h0 (fun u => w ⟨rfl, u.2.2⟩))
theorem sp_33 {n : Nat} (hn : n ≤ 8) {v1 c : Int} {m : Mem} {K67 : Int → Int → Int → Mem → Prop} {post : Mem → Prop} (e0 : m 67 0 = n) (H : K67 v1 c (nM n c) m) : ∃ k : Nat, wp_X11_seekNet_33 K67 post k v1 c 0 0 m := by
  have key : ∀ r a : Nat, a + r = n → wp_X11_seekNet_33 K67 post (r + 1) v1 c (fd (nM1 c) a 0) a m := by
    intro r
    induction r with
    | zero => intro a ha; unfold wp_X11_seekNet_33; rw [e0]; refine bt (by omega) ?_; rw [show a = n by omega]; exact H
    | succ r ih =>
      intro a ha
      unfold wp_X11_seekNet_33
      rw [e0, i1 a (by omega)]
      exact bf (by omega) (eqm (ih (a + 1) (by omega)))
  exact ⟨n + 1, key n 0 (by omega)⟩
theorem sh16 {n : Nat} (hn : 2 ≤ n ∧ n ≤ 4) : shl32 1 (w32 (4 * (n : Int))) = ((16 ^ n : Nat) : Int) ∧ 16 ^ n ≤ 65536 := by
  rcases (show n = 2 ∨ n = 3 ∨ n = 4 by omega) with rfl | rfl | rfl <;> decide +kernel
theorem sp_seek {n : Nat} (hn : 2 ≤ n ∧ n ≤ 4) {e : Int} (he : 0 ≤ e ∧ e ≤ 99) {mi ld tr : Int → Int} (hO : ∀ r : Int, An n r → NOk n mi ld r) {m : Mem} {post : Mem → Prop} (h0 : m 67 0 = n) (h24 : m 67 24 = e) (h68 : ∀ i j : Int, 0 ≤ i → i < n → 0 ≤ j → j < n → i ≠ j → m 68 (8 * i + j) = mi (8 * i + j)) (h81 : ∀ i j : Int, 0 ≤ i → i < n → 0 ≤ j → j < n → m 81 (8 * i + j) = ld (8 * i + j)) (h82 : ∀ a : Nat, a < n → m 82 a = tr a) (H : ∀ m' : Mem, (∀ c i : Int, ¬ ScrS c i → m' c i = m c i) → Best (Al n tr) (ncost n e mi ld) (m' 67 52) (m' 67 51) → post m') : wp_X11_seekNet m post := by
  have hn8 : n ≤ 8 := by omega
  have h16 := sh16 hn
  have key : ∀ (r c : Nat) (m' : Mem), c + r = 16 ^ n → (∀ x i : Int, ¬ ScrS x i → m' x i = m x i) → Best (fun v => Al n tr v ∧ ∃ c' : Nat, c' < c ∧ v = nM n c') (ncost n e mi ld) (m' 67 52) (m' 67 51) → wp_X11_seekNet_23 post (r + 1) ((16 ^ n : Nat) : Int) c m' := by
    intro r
    induction r with
    | zero =>
      intro c m' hc f hB
      unfold wp_X11_seekNet_23
      refine bt (by omega) (H m' f (best_cg (fun v => ⟨fun z => z.1, fun z => ⟨z, ?_⟩⟩) hB))
      obtain ⟨x, x0, x1, x2⟩ := cod_M hn z.1 z.2.1
      have x1' : x < ((16 ^ n : Nat) : Int) := by rw [Int.natCast_pow]; exact x1
      exact ⟨x.toNat, by omega, by rw [show ((x.toNat : Nat) : Int) = x by omega]; exact x2.symm⟩
    | succ r ih =>
      intro c m' hc f hB
      have f0 : m' 67 0 = n := by rw [f 67 0 (by unfold ScrS; omega)]; exact h0
      have hcr : 0 ≤ (c : Int) ∧ (c : Int) < 16 ^ n := by
        have : (c : Int) < ((16 ^ n : Nat) : Int) := by omega
        rw [Int.natCast_pow] at this
        exact ⟨by omega, this⟩
      have hr64 := nM_r hn hcr
      have nxt := fun m3 => ih (c + 1) m3 (by omega)
      clear ih
      have spl : ∀ v : Int, (Al n tr v ∧ ∃ c' : Nat, c' < c + 1 ∧ v = nM n c') ↔ ((Al n tr v ∧ ∃ c' : Nat, c' < c ∧ v = nM n c') ∨ (Al n tr v ∧ v = nM n c)) := by
        intro v
        constructor
        · rintro ⟨a, c', b, d⟩
          by_cases q : c' = c
          · rw [q] at d; exact Or.inr ⟨a, d⟩
          · exact Or.inl ⟨a, c', by omega, d⟩
        · rintro (⟨a, c', b, d⟩ | ⟨a, b⟩)
          · exact ⟨a, c', by omega, d⟩
          · exact ⟨a, c, by omega, b⟩
      unfold wp_X11_seekNet_23
      refine bf (by omega) (sp_33 hn8 f0 (sp_isNet (tr := tr) hn8 hr64 f0 (fun a ha => by rw [f 82 a (by unfold ScrS; omega)]; exact h82 a ha) (fun hA => z1 ?_) (fun hA => z0 ?_)))
      · refine sp_costOfM hn8 f0 he (by rw [f 67 24 (by unfold ScrS; omega)]; exact h24) (hO _ hA.2.1) (fun i j i1 i2 j1 j2 ij => by rw [f 68 _ (by unfold ScrS; omega)]; exact h68 i j i1 i2 j1 j2 ij) (fun i j i1 i2 j1 j2 => by rw [f 81 _ (by unfold ScrS; omega)]; exact h81 i j i1 i2 j1 j2) (fun m2 g2 => ?_)
        have spl' : ∀ v : Int, (Al n tr v ∧ ∃ c' : Nat, c' < c + 1 ∧ v = nM n c') ↔ ((Al n tr v ∧ ∃ c' : Nat, c' < c ∧ v = nM n c') ∨ v = nM n c) := fun v => (spl v).trans ⟨fun z => z.elim Or.inl (fun z => Or.inr z.2), fun z => z.elim Or.inl (fun z => Or.inr ⟨by rw [z]; exact hA, z⟩)⟩
        have f2 : ∀ x i : Int, ¬ ScrS x i → m2 x i = m x i := fun x i hx => by rw [g2 x i (fun q => hx (Or.inl q)), f x i hx]
        have e52 : m2 67 52 = m' 67 52 := g2 67 52 (by omega)
        have e51 : m2 67 51 = m' 67 51 := g2 67 51 (by omega)
        rw [← e52, ← e51] at hB
        clear spl f g2 e52 e51
        have kp : (ncost n e mi ld (nM n c) = -1 ∨ (m2 67 52 ≠ -1 ∧ (m2 67 52 < ncost n e mi ld (nM n c) ∨ (m2 67 52 = ncost n e mi ld (nM n c) ∧ (bcl (m2 67 51) < bcl (nM n c) ∨ (bcl (m2 67 51) = bcl (nM n c) ∧ m2 67 51 ≤ nM n c)))))) → wp_X11_seekNet_23 post (r + 1) ((16 ^ n : Nat) : Int) ((c + 1 : Nat) : Int) m2 := fun h => nxt m2 f2 (best_k spl' hB h)
        have nw : ncost n e mi ld (nM n c) ≠ -1 → (m2 67 52 = -1 ∨ ncost n e mi ld (nM n c) < m2 67 52 ∨ (ncost n e mi ld (nM n c) = m2 67 52 ∧ (bcl (nM n c) < bcl (m2 67 51) ∨ (bcl (nM n c) = bcl (m2 67 51) ∧ nM n c ≤ m2 67 51)))) → wp_X11_seekNet_23 post (r + 1) ((16 ^ n : Nat) : Int) ((c + 1 : Nat) : Int) (mset (mset m2 67 52 (ncost n e mi ld (nM n c))) 67 51 (nM n c)) := fun h h' => by
          refine nxt _ (fun x i hx => ?_) ?_
          · rw [mset_ne (fun q => hx (by unfold ScrS; omega)), mset_ne (fun q => hx (by unfold ScrS; omega))]; exact f2 x i hx
          · rw [mset_same, mset_ne (by omega), mset_same]
            exact best_n spl' hB h h'
        have hbn : m2 67 52 ≠ -1 → r64 (m2 67 51) ∧ An n (m2 67 51) := fun h => by
          rcases hB with ⟨a, -⟩ | ⟨-, b, -⟩
          · exact absurd a h
          · exact ⟨b.1.1, b.1.2.1⟩
        clear nxt hB spl' f2
        generalize ncost n e mi ld (nM n c) = x at kp nw ⊢
        unfold wp_X11_seekNet_155 wp_X11_seekNet_151 wp_X11_seekNet_156
        rw [i1b c (by omega)]
        refine ⟨fun q => z0 (kp (Or.inl q)), fun q => ⟨fun q2 => z1 (eqm (eqm (nw q (Or.inl q2)))), fun q2 => ⟨fun q3 => z1 (eqm (eqm (nw q (Or.inr (Or.inl q3))))), fun q3 => ⟨fun q4 => z0 (kp (Or.inr ⟨q2, Or.inl (by omega)⟩)), fun q4 => ?_⟩⟩⟩⟩
        have hb := hbn q2
        refine sp_onesA hn hr64 hA.2.1 (sp_onesA hn hb.1 hb.2 ⟨fun q5 => z1 (eqm (eqm (nw q (Or.inr (Or.inr ⟨q4, Or.inl q5⟩))))), fun q5 => ?_⟩)
        refine sp_onesA hn hr64 hA.2.1 (sp_onesA hn hb.1 hb.2 ⟨fun q6 => z0 (kp (Or.inr ⟨q2, Or.inr ⟨q4.symm, Or.inl (by omega)⟩⟩)), fun q6 => ⟨fun q7 => z0 (kp (Or.inr ⟨q2, Or.inr ⟨q4.symm, Or.inr ⟨q6.symm, ?_⟩⟩⟩)), fun q7 => z1 (eqm (eqm (nw q (Or.inr (Or.inr ⟨q4, Or.inr ⟨q6, ?_⟩⟩)))))⟩⟩)
        · unfold lcmp at q7
          split at q7
          · omega
          · split at q7 <;> omega
        · unfold lcmp at q7
          split at q7
          · omega
          · split at q7 <;> omega
      · show wp_X11_seekNet_23 post (r + 1) ((16 ^ n : Nat) : Int) (w32 ((c : Int) + 1)) m'
        rw [i1b c (by omega)]
        exact nxt m' f (best_cg (fun v => ⟨fun z => (spl v).mpr (Or.inl z), fun z => ((spl v).mp z).elim id (fun z => absurd (by rw [← z.2]; exact z.1) hA)⟩) hB)
  unfold wp_X11_seekNet
  refine eqm (eqm (eqm ?_))
  rw [mset_ne (by omega), mset_ne (by omega), h0, h16.1]
  refine ⟨16 ^ n + 1, key (16 ^ n) 0 _ (by omega) (fun x i hx => ?_) ?_⟩
  · rw [mset_ne (fun q => hx (by unfold ScrS; omega)), mset_ne (fun q => hx (by unfold ScrS; omega))]
  · refine Or.inl ⟨mset_same _ _ _ _, ?_, fun v q => ?_⟩
    · rw [mset_ne (by omega), mset_same]
    · obtain ⟨-, c', b, -⟩ := q
      omega
