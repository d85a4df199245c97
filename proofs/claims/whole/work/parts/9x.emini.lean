/-! least: the class's lists and fares -/
def GaI (m : Mem) (i : Nat) (m' : Mem) (G T : Nat) : Prop := (∀ x k : Int, ¬ ((x = 47 ∧ (k = 2 ∨ k = 3)) ∨ (49 ≤ x ∧ x ≤ 52)) → m' x k = m x k) ∧ m' 47 2 = G ∧ m' 47 3 = T ∧ G + T ≤ i ∧ (∀ g : Nat, g < G → ∃ x : Nat, x < i ∧ m' 49 g = x ∧ m' 51 g = m 48 x ∧ 0 < m 48 x) ∧ (∀ t : Nat, t < T → ∃ x : Nat, x < i ∧ m' 50 t = x ∧ m' 52 t = -m 48 x ∧ m 48 x < 0) ∧ (∀ q : Nat → Int, sumg (fun g => q (m' 49 g).toNat) G = sumg (fun i => if 0 < m 48 i then q i else 0) i) ∧ ∀ q : Nat → Int, sumg (fun t => q (m' 50 t).toNat) T = sumg (fun i => if m 48 i < 0 then q i else 0) i
theorem sp_gathE {n : Nat} (hn : n ≤ 8) {m : Mem} (hov : ∀ i : Nat, i < 3 * n → -50 ≤ m 48 i ∧ m 48 i ≤ 50) {post : Mem → Prop} (H : ∀ (m' : Mem) (G T : Nat), GaI m (3 * n) m' G T → post m') : wp_X2_gather n m post := by
  have e3 : w32 ((n : Int) * 3) = ((3 * n : Nat) : Int) := by rw [w32_i (by omega)]; omega
  have key : ∀ (rem i : Nat) (m' : Mem) (G T : Nat), i + rem = 3 * n → GaI m i m' G T → wp_X2_gather_12 post (rem + 1) n i m' := by
    intro rem
    induction rem with
    | zero =>
      intro i m' G T hi h
      have : i = 3 * n := by omega
      subst this
      unfold wp_X2_gather_12
      rw [e3]
      exact bt (Int.le_refl _) (H m' G T h)
    | succ rem ih =>
      intro i m' G T hi h
      obtain ⟨a1, a2, a3, a4, a5, a6, a7, a8⟩ := h
      have ci : 0 ≤ (i : Int) ∧ (i : Int) < 24 := by omega
      have cG : 0 ≤ (G : Int) ∧ (G : Int) < 24 := by omega
      have cT : 0 ≤ (T : Int) ∧ (T : Int) < 24 := by omega
      have e48 : m' 48 i = m 48 i := a1 48 i (by omega)
      have hb := hov i (by omega)
      unfold wp_X2_gather_12
      rw [e3, e48, i1 i (by omega)]
      refine bf (by omega) ⟨ci, fun q => ⟨ci, fun q2 => ?_, fun q2 => ?_⟩, fun q => ?_⟩
      · refine ih (i + 1) m' G T (by omega) ⟨a1, a2, a3, by omega, fun g hg => ?_, fun t ht => ?_, fun f => ?_, fun f => ?_⟩
        · obtain ⟨x, h1, h2⟩ := a5 g hg; exact ⟨x, by omega, h2⟩
        · obtain ⟨x, h1, h2⟩ := a6 t ht; exact ⟨x, by omega, h2⟩
        · show _ = sumg (fun i : Nat => if 0 < m 48 i then f i else 0) i + (if 0 < m 48 i then f i else 0)
          rw [if_neg (by omega), Int.add_zero]; exact a7 f
        · show _ = sumg (fun i : Nat => if m 48 i < 0 then f i else 0) i + (if m 48 i < 0 then f i else 0)
          rw [if_neg (by omega), Int.add_zero]; exact a8 f
      · rw [a3]
        refine ⟨cT, eqm ⟨ci, ?_⟩⟩
        rw [mset_r (show ¬ (47 : Int) = 50 by decide), a3, mset_r (show ¬ (48 : Int) = 50 by decide), e48, w32_i (x := -m 48 i) (by omega)]
        refine ⟨cT, eqm (eqm ?_)⟩
        rw [mset_r (show ¬ (47 : Int) = 52 by decide), mset_r (show ¬ (47 : Int) = 50 by decide), a3, i1 T (by omega)]
        have o49 : mset (mset (mset m' 50 T i) 52 T (-m 48 i)) 47 3 ((T + 1 : Nat) : Int) 49 = m' 49 := by rw [mset_r (by decide), mset_r (by decide), mset_r (by decide)]
        have o51 : mset (mset (mset m' 50 T i) 52 T (-m 48 i)) 47 3 ((T + 1 : Nat) : Int) 51 = m' 51 := by rw [mset_r (by decide), mset_r (by decide), mset_r (by decide)]
        have o50 : mset (mset (mset m' 50 T i) 52 T (-m 48 i)) 47 3 ((T + 1 : Nat) : Int) 50 = rset (m' 50) T i := by rw [mset_r (by decide), mset_r (by decide), mset_s]
        have o52 : mset (mset (mset m' 50 T i) 52 T (-m 48 i)) 47 3 ((T + 1 : Nat) : Int) 52 = rset (m' 52) T (-m 48 i) := by rw [mset_r (by decide), mset_s, mset_r (by decide)]
        refine ih (i + 1) _ G (T + 1) (by omega) ⟨fun x k hx => ?_, ?_, mset_same _ _ _ _, by omega, fun g hg => ?_, fun t ht => ?_, fun f => ?_, fun f => ?_⟩
        · rw [mset_ne (by omega), mset_ne (by omega), mset_ne (by omega)]; exact a1 x k hx
        · rw [mset_ne (by omega), mset_r (by decide), mset_r (by decide)]; exact a2
        · rw [o49, o51]
          obtain ⟨x, h1, h2⟩ := a5 g hg; exact ⟨x, by omega, h2⟩
        · rw [o50, o52]
          by_cases c : t = T
          · rw [c, rset_eq rfl, rset_eq rfl]; exact ⟨i, by omega, rfl, rfl, by omega⟩
          · rw [rset_ne (by omega), rset_ne (by omega)]
            obtain ⟨x, h1, h2⟩ := a6 t (by omega); exact ⟨x, by omega, h2⟩
        · rw [o49]
          show _ = sumg (fun i : Nat => if 0 < m 48 i then f i else 0) i + (if 0 < m 48 i then f i else 0)
          rw [if_neg (by omega), Int.add_zero]; exact a7 f
        · rw [o50]
          show sumg (fun t : Nat => f (rset (m' 50) T i t).toNat) T + f (rset (m' 50) T i T).toNat = sumg (fun i : Nat => if m 48 i < 0 then f i else 0) i + (if m 48 i < 0 then f i else 0)
          rw [if_pos (by omega), rset_eq rfl, Int.toNat_natCast, ← a8 f]
          rw [sumg_e (g := fun t : Nat => f (rset (m' 50) T i t).toNat) (g' := fun t : Nat => f (m' 50 t).toNat) T (fun t ht => by
            show f (rset (m' 50) T i t).toNat = f (m' 50 t).toNat
            rw [rset_ne (by omega)])]
      · rw [a2]
        refine ⟨cG, eqm ⟨ci, ?_⟩⟩
        rw [mset_r (show ¬ (47 : Int) = 49 by decide), a2, mset_r (show ¬ (48 : Int) = 49 by decide), e48]
        refine ⟨cG, eqm (eqm ?_)⟩
        rw [mset_r (show ¬ (47 : Int) = 51 by decide), mset_r (show ¬ (47 : Int) = 49 by decide), a2, i1 G (by omega)]
        have o50 : mset (mset (mset m' 49 G i) 51 G (m 48 i)) 47 2 ((G + 1 : Nat) : Int) 50 = m' 50 := by rw [mset_r (by decide), mset_r (by decide), mset_r (by decide)]
        have o52 : mset (mset (mset m' 49 G i) 51 G (m 48 i)) 47 2 ((G + 1 : Nat) : Int) 52 = m' 52 := by rw [mset_r (by decide), mset_r (by decide), mset_r (by decide)]
        have o49 : mset (mset (mset m' 49 G i) 51 G (m 48 i)) 47 2 ((G + 1 : Nat) : Int) 49 = rset (m' 49) G i := by rw [mset_r (by decide), mset_r (by decide), mset_s]
        have o51 : mset (mset (mset m' 49 G i) 51 G (m 48 i)) 47 2 ((G + 1 : Nat) : Int) 51 = rset (m' 51) G (m 48 i) := by rw [mset_r (by decide), mset_s, mset_r (by decide)]
        refine ih (i + 1) _ (G + 1) T (by omega) ⟨fun x k hx => ?_, mset_same _ _ _ _, ?_, by omega, fun g hg => ?_, fun t ht => ?_, fun f => ?_, fun f => ?_⟩
        · rw [mset_ne (by omega), mset_ne (by omega), mset_ne (by omega)]; exact a1 x k hx
        · rw [mset_ne (by omega), mset_r (by decide), mset_r (by decide)]; exact a3
        · rw [o49, o51]
          by_cases c : g = G
          · rw [c, rset_eq rfl, rset_eq rfl]; exact ⟨i, by omega, rfl, rfl, by omega⟩
          · rw [rset_ne (by omega), rset_ne (by omega)]
            obtain ⟨x, h1, h2⟩ := a5 g (by omega); exact ⟨x, by omega, h2⟩
        · rw [o50, o52]
          obtain ⟨x, h1, h2⟩ := a6 t ht; exact ⟨x, by omega, h2⟩
        · rw [o49]
          show sumg (fun g : Nat => f (rset (m' 49) G i g).toNat) G + f (rset (m' 49) G i G).toNat = sumg (fun i : Nat => if 0 < m 48 i then f i else 0) i + (if 0 < m 48 i then f i else 0)
          rw [if_pos (by omega), rset_eq rfl, Int.toNat_natCast, ← a7 f]
          rw [sumg_e (g := fun g : Nat => f (rset (m' 49) G i g).toNat) (g' := fun g : Nat => f (m' 49 g).toNat) G (fun g hg => by
            show f (rset (m' 49) G i g).toNat = f (m' 49 g).toNat
            rw [rset_ne (by omega)])]
        · rw [o50]
          show _ = sumg (fun i : Nat => if m 48 i < 0 then f i else 0) i + (if m 48 i < 0 then f i else 0)
          rw [if_neg (by omega), Int.add_zero]; exact a8 f
  refine eqm (eqm ⟨3 * n + 1, key (3 * n) 0 _ 0 0 (by omega) ⟨fun x k hx => by rw [mset_ne (by omega), mset_ne (by omega)], by rw [mset_ne (by omega), mset_same]; rfl, mset_same _ _ _ _, by omega, fun g hg => by omega, fun t ht => by omega, fun _ => rfl, fun _ => rfl⟩⟩)
/-- what it costs from place to place -/
def ctp (nr : Int → Int) (st : Int) (i j : Nat) : Int := nr (8 * ((i / 3 : Nat) : Int) + ((j / 3 : Nat) : Int)) + st * (((j % 3 : Nat) : Int) - ((i % 3 : Nat) : Int))
theorem ctp_b {nr : Int → Int} {st : Int} {n : Nat} (hst : 0 ≤ st ∧ st ≤ 99) (hnr : ∀ a b : Int, 0 ≤ a → a < n → 0 ≤ b → b < n → 0 ≤ nr (8 * a + b) ∧ nr (8 * a + b) ≤ 99) {i j : Nat} (hi : i < 3 * n) (hj : j < 3 * n) (h : i % 3 ≤ j % 3) : (0 ≤ ctp nr st i j ∧ ctp nr st i j ≤ 1000) ∧ (0 ≤ st * (((j % 3 : Nat) : Int) - ((i % 3 : Nat) : Int)) ∧ st * (((j % 3 : Nat) : Int) - ((i % 3 : Nat) : Int)) ≤ 198) := by
  have h1 := hnr ((i / 3 : Nat) : Int) ((j / 3 : Nat) : Int) (by omega) (by omega) (by omega) (by omega)
  have h2 : 0 ≤ ((j % 3 : Nat) : Int) - ((i % 3 : Nat) : Int) ∧ ((j % 3 : Nat) : Int) - ((i % 3 : Nat) : Int) ≤ 2 := by omega
  have e : ctp nr st i j = nr (8 * ((i / 3 : Nat) : Int) + ((j / 3 : Nat) : Int)) + st * (((j % 3 : Nat) : Int) - ((i % 3 : Nat) : Int)) := rfl
  rw [e]
  generalize ((j % 3 : Nat) : Int) - ((i % 3 : Nat) : Int) = w at h2 ⊢
  generalize nr (8 * ((i / 3 : Nat) : Int) + ((j / 3 : Nat) : Int)) = z at h1 ⊢
  have h3 : st * w ≤ 99 * w := Int.mul_le_mul_of_nonneg_right hst.2 h2.1
  have h4 : 0 ≤ st * w := Int.mul_nonneg hst.1 h2.1
  omega
theorem tm3 (i : Nat) : Int.tmod (i : Int) 3 = ((i % 3 : Nat) : Int) := by rw [Int.tmod_eq_emod_of_nonneg (by omega)]; omega
theorem td3 {i : Nat} (h : i < 1000) : w32 (Int.tdiv (i : Int) 3) = ((i / 3 : Nat) : Int) := by
  rw [Int.tdiv_eq_ediv_of_nonneg (by omega), w32_i (by omega)]
  omega
theorem sf_x {i j : Nat} (hi : i < 24) (hj : j < 24) : w32 (w32 (w32 (Int.tdiv (i : Int) 3) * 8) + w32 (Int.tdiv (j : Int) 3)) = 8 * ((i / 3 : Nat) : Int) + ((j / 3 : Nat) : Int) ∧ (0 ≤ 8 * ((i / 3 : Nat) : Int) + ((j / 3 : Nat) : Int) ∧ 8 * ((i / 3 : Nat) : Int) + ((j / 3 : Nat) : Int) < 64) ∧ w32 (Int.tmod (j : Int) 3 - Int.tmod (i : Int) 3) = ((j % 3 : Nat) : Int) - ((i % 3 : Nat) : Int) := by
  refine ⟨?_, by omega, ?_⟩
  · rw [td3 (by omega), td3 (by omega), ix8 (by omega) (by omega) (by omega) (by omega)]
  · rw [tm3, tm3, w32_i (by omega)]
theorem sf_w {w z : Int} (hw : 0 ≤ w ∧ w ≤ 198) (hz : 0 ≤ z ∧ z ≤ 99) : w32 (z + w32 w) = z + w := by rw [w32_i (x := w) (by omega), w32_i (by omega)]
def SfI (ms : Mem) (gv tv : Nat → Nat) (nr : Int → Int) (st : Int) (m : Mem) (g t : Nat) (T : Nat) : Prop := (∀ x k : Int, ¬ (x = 53 ∨ x = 54) → m x k = ms x k) ∧ ∀ x y : Nat, y < T → (x < g ∨ (x = g ∧ y < t)) → cC53 m x y = (if gv x % 3 ≤ tv y % 3 then ctp nr st (gv x) (tv y) else 1000000) ∧ fC m x y = 0
theorem sp_setF {n : Nat} (hn : n ≤ 8) {ms : Mem} {G T : Nat} (hG : ms 47 2 = G) (hT : ms 47 3 = T) (hG24 : G ≤ 24) (hT24 : T ≤ 24) {gv tv : Nat → Nat} (hgv : ∀ g : Nat, g < G → gv g < 3 * n ∧ ms 49 g = gv g) (htv : ∀ t : Nat, t < T → tv t < 3 * n ∧ ms 50 t = tv t) {nr : Int → Int} (h3 : ms 3 = nr) {st : Int} (hst : 0 ≤ st ∧ st ≤ 99) (h47 : ms 47 0 = st) (hnr : ∀ a b : Int, 0 ≤ a → a < n → 0 ≤ b → b < n → 0 ≤ nr (8 * a + b) ∧ nr (8 * a + b) ≤ 99) {post : Mem → Prop} (H : ∀ m : Mem, SfI ms gv tv nr st m G 0 T → post m) : wp_X2_setFares ms post := by
  have inner : ∀ (K2 : Int → Mem → Prop) (g : Nat), g < G → (∀ m : Mem, SfI ms gv tv nr st m (g + 1) 0 T → K2 ((g + 1 : Nat) : Int) m) → ∀ (rem t : Nat) (m : Mem), t + rem = T → SfI ms gv tv nr st m g t T → wp_X2_setFares_12 K2 post (rem + 1) g t m := by
    intro K2 g hg hK rem
    induction rem with
    | zero =>
      intro t m ht h
      have : t = T := by omega
      subst this
      unfold wp_X2_setFares_12
      rw [h.1 47 3 (by decide), hT, i1 g (by omega)]
      exact bt (Int.le_refl _) (hK m ⟨h.1, fun x y hy hor => h.2 x y hy (by omega)⟩)
    | succ rem ih =>
      intro t m ht h
      have htT : t < T := by omega
      have cg : 0 ≤ (g : Int) ∧ (g : Int) < 24 := by omega
      have ct : 0 ≤ (t : Int) ∧ (t : Int) < 24 := by omega
      have x2 := (ix24 cg ct).2
      obtain ⟨b1, b2⟩ := hgv g hg
      obtain ⟨c1, c2⟩ := htv t htT
      have b24 : gv g < 24 := by omega
      have c24 : tv t < 24 := by omega
      have z2 := (sf_x b24 c24).2.1
      have hrem : t + 1 + rem = T := by omega
      have hno : ¬ (T : Int) ≤ t := by omega
      have nx : ∀ v : Int, v = (if gv g % 3 ≤ tv t % 3 then ctp nr st (gv g) (tv t) else 1000000) → wp_X2_setFares_12 K2 post (rem + 1) g ((t + 1 : Nat) : Int) (mset (mset m 53 (24 * (g : Int) + t) v) 54 (24 * (g : Int) + t) 0) := fun v hv => ih (t + 1) _ hrem ⟨fun x k hx => by rw [mset_ne (fun z => hx (by omega)), mset_ne (fun z => hx (by omega))]; exact h.1 x k hx, fun x y hy hor => by
        have ht24 : t < 24 := by omega
        have hy24 : y < 24 := by omega
        rw [fC_set ht24 hy24]
        unfold cC53
        rw [mset_r (show ¬ (53 : Int) = 54 by decide), mset_at]
        by_cases c : x = g ∧ y = t
        · rw [if_pos c, c.1, c.2, if_pos ⟨rfl, rfl⟩]; exact ⟨hv, rfl⟩
        · rw [if_neg c, if_neg (by omega)]
          have := h.2 x y hy (by omega)
          refine ⟨this.1, ?_⟩
          have e : fC (mset m 53 (24 * (g : Int) + t) v) x y = fC m x y := by unfold fC; rw [mset_r (by decide)]
          rw [e]
          exact this.2⟩
      unfold wp_X2_setFares_12
      rw [h.1 47 3 (by decide), hT, h.1 50 t (by omega), h.1 49 g (by omega), b2, c2, (sf_x b24 c24).1, (sf_x b24 c24).2.2]
      refine bf hno ⟨ct, cg, eqm ⟨cg, ct, z2, eqm ?_⟩⟩
      unfold wp_X2_setFares_96
      rw [(ix24 cg ct).1, i1 t (by omega), h.1 3 _ (by omega), h3, h.1 47 0 (by omega), h47, Int.mul_comm _ st]
      refine ⟨fun q => ⟨x2, eqm ⟨x2, eqm (nx _ ?_)⟩⟩, fun q => ⟨x2, eqm ⟨x2, eqm (nx _ ?_)⟩⟩⟩
      · have hq : gv g % 3 ≤ tv t % 3 := by omega
        have hb := ctp_b hst hnr b1 c1 hq
        have hn1 := hnr ((gv g / 3 : Nat) : Int) ((tv t / 3 : Nat) : Int) (by omega) (by omega) (by omega) (by omega)
        rw [if_pos hq]
        exact sf_w hb.2 hn1
      · rw [if_neg (by omega)]
  have outer : ∀ (rem g : Nat) (m : Mem), g + rem = G → SfI ms gv tv nr st m g 0 T → wp_X2_setFares_2 post (rem + 1) g m := by
    intro rem
    induction rem with
    | zero =>
      intro g m hg h
      have : g = G := by omega
      subst this
      unfold wp_X2_setFares_2
      rw [h.1 47 2 (by decide), hG]
      exact bt (Int.le_refl _) (H m h)
    | succ rem ih =>
      intro g m hg h
      unfold wp_X2_setFares_2
      rw [h.1 47 2 (by decide), hG]
      exact bf (by omega) ⟨T + 1, inner _ g (by omega) (fun m' h' => ih (g + 1) m' (by omega) h') T 0 m (by omega) h⟩
  exact ⟨G + 1, outer G 0 ms (by omega) ⟨fun _ _ _ => rfl, fun x y _ hor => by omega⟩⟩
/-- what the class's least says: its lists, and its proof of least, or that it can't be -/
def CRes (m : Mem) (n : Nat) (nr : Int → Int) (st : Int) (r : Int) : Prop := ∃ (G T : Nat) (gv tv : Nat → Nat) (op : Nat → Nat → Prop) (c : Nat → Nat → Int), (∀ g : Nat, g < G → gv g < 3 * n ∧ 0 < m 48 (gv g : Int)) ∧ (∀ t : Nat, t < T → tv t < 3 * n ∧ m 48 (tv t : Int) < 0) ∧ (∀ q : Nat → Int, sumg (fun g => q (gv g)) G = sumg (fun i => if 0 < m 48 i then q i else 0) (3 * n)) ∧ (∀ q : Nat → Int, sumg (fun t => q (tv t)) T = sumg (fun i => if m 48 i < 0 then q i else 0) (3 * n)) ∧ (∀ g t : Nat, g < G → t < T → (op g t ↔ gv g % 3 ≤ tv t % 3) ∧ (op g t → c g t = ctp nr st (gv g) (tv t))) ∧ ((∃ (a w : Nat → Int) (f : Nat → Nat → Int) (pG pT : Nat → Int), FLw G T op (fun g => m 48 (gv g : Int)) (fun t => -m 48 (tv t : Int)) a w f ∧ (∀ t : Nat, t < T → w t = 0) ∧ PTd G T op c (fun g => m 48 (gv g : Int)) pG pT ∧ PTt G T c a f pG pT ∧ r = cstF c f G T) ∨ ((∃ U W : Nat → Bool, NCt G T op (fun g => m 48 (gv g : Int)) (fun t => -m 48 (tv t : Int)) U W) ∧ r = -1))
theorem sp_leastC {n : Nat} (hn : n ≤ 8) {m : Mem} (h0 : m 1 0 = n) (hov : ∀ i : Nat, i < 3 * n → -50 ≤ m 48 i ∧ m 48 i ≤ 50) (hst : 0 ≤ m 47 0 ∧ m 47 0 ≤ 99) (hb : ∀ i j : Int, 0 ≤ i → i < n → 0 ≤ j → j < n → i ≠ j → 0 ≤ m 2 (8 * i + j) ∧ m 2 (8 * i + j) ≤ 99) (hnr : ∀ A : Int → Int, (∀ i : Int, 0 ≤ i → i < n → A (8 * i + i) = 0) → (∀ i j : Int, 0 ≤ i → i < n → 0 ≤ j → j < n → i ≠ j → A (8 * i + j) = m 2 (8 * i + j)) → ∀ a b : Int, 0 ≤ a → a < n → 0 ≤ b → b < n → 0 ≤ cA 0 n n A (8 * a + b) ∧ cA 0 n n A (8 * a + b) ≤ 99) {post : Int → Mem → Prop} (H : ∀ (A : Int → Int) (m' : Mem) (r : Int), (∀ i : Int, 0 ≤ i → i < n → A (8 * i + i) = 0) → (∀ i j : Int, 0 ≤ i → i < n → 0 ≤ j → j < n → i ≠ j → A (8 * i + j) = m 2 (8 * i + j)) → (∀ x k : Int, ¬ ((x = 47 ∧ (k = 2 ∨ k = 3)) ∨ (49 ≤ x ∧ x ≤ 58) ∨ x = 3) → m' x k = m x k) → CRes m n (cA 0 n n A) (m 47 0) r → post r m') : wp_X10_least m post := by
  unfold wp_X10_least wp_X2_leastPaid
  rw [h0]
  refine sp_gathE hn hov (fun m5 G T hGa => ?_)
  obtain ⟨a1, a2, a3, a4, a5, a6, a7, a8⟩ := hGa
  have e2 : m5 2 = m 2 := funext fun k => a1 2 k (by omega)
  refine sp_measure hn (by rw [a1 1 0 (by omega)]; exact h0) (by rw [e2]; exact hb) (fun A hA1 hA2 => ?_)
  rw [e2] at hA2
  have hnr' := hnr A hA1 hA2
  have hgv : ∀ g : Nat, g < G → (m5 49 g).toNat < 3 * n ∧ m5 49 g = ((m5 49 g).toNat : Int) ∧ m5 51 g = m 48 (((m5 49 g).toNat : Nat) : Int) ∧ 0 < m 48 (((m5 49 g).toNat : Nat) : Int) := fun g hg => by
    obtain ⟨x, h1, h2, h3, h4⟩ := a5 g hg
    rw [h2, Int.toNat_natCast]
    exact ⟨h1, rfl, h3, h4⟩
  have htv : ∀ t : Nat, t < T → (m5 50 t).toNat < 3 * n ∧ m5 50 t = ((m5 50 t).toNat : Int) ∧ m5 52 t = -m 48 (((m5 50 t).toNat : Nat) : Int) ∧ m 48 (((m5 50 t).toNat : Nat) : Int) < 0 := fun t ht => by
    obtain ⟨x, h1, h2, h3, h4⟩ := a6 t ht
    rw [h2, Int.toNat_natCast]
    exact ⟨h1, rfl, h3, h4⟩
  have hG24 : G ≤ 24 := by omega
  have hT24 : T ≤ 24 := by omega
  refine sp_setF hn (ms := mrow m5 3 (cA 0 n n A)) (G := G) (T := T) (gv := fun g => (m5 49 g).toNat) (tv := fun t => (m5 50 t).toNat) (nr := cA 0 n n A) (st := m 47 0) (by rw [mrow_ne (by decide)]; exact a2) (by rw [mrow_ne (by decide)]; exact a3) hG24 hT24 (fun g hg => by rw [mrow_ne (by decide)]; exact ⟨(hgv g hg).1, (hgv g hg).2.1⟩) (fun t ht => by rw [mrow_ne (by decide)]; exact ⟨(htv t ht).1, (htv t ht).2.1⟩) (mrow_s _ _ _) hst (by rw [mrow_ne (by decide)]; exact a1 47 0 (by omega)) hnr' (fun m9 hSf => ?_)
  obtain ⟨s1, s2⟩ := hSf
  have fr9 : ∀ x k : Int, ¬ (x = 3 ∨ x = 53 ∨ x = 54) → m9 x k = m5 x k := fun x k hx => by rw [s1 x k (by omega), mrow_ne (by omega)]
  have hcc : ∀ g t : Nat, g < G → t < T → ((m5 49 g).toNat % 3 ≤ (m5 50 t).toNat % 3 ∧ cC53 m9 g t = ctp (cA 0 n n A) (m 47 0) (m5 49 g).toNat (m5 50 t).toNat ∧ 0 ≤ cC53 m9 g t ∧ cC53 m9 g t ≤ 1000) ∨ (¬ (m5 49 g).toNat % 3 ≤ (m5 50 t).toNat % 3 ∧ cC53 m9 g t = 1000000) := fun g t hg ht => by
    have h1 : cC53 m9 g t = (if (m5 49 g).toNat % 3 ≤ (m5 50 t).toNat % 3 then ctp (cA 0 n n A) (m 47 0) (m5 49 g).toNat (m5 50 t).toNat else 1000000) := (s2 g t ht (Or.inl hg)).1
    by_cases q : (m5 49 g).toNat % 3 ≤ (m5 50 t).toNat % 3
    · rw [if_pos q] at h1
      have := (ctp_b hst hnr' (hgv g hg).1 (htv t ht).1 q).1
      exact Or.inl ⟨q, h1, by omega, by omega⟩
    · rw [if_neg q] at h1
      exact Or.inr ⟨q, h1⟩
  have hE : EmD m9 G T := by
    refine ⟨by rw [fr9 47 2 (by omega)]; exact a2, by rw [fr9 47 3 (by omega)]; exact a3, hG24, hT24, by omega, fun g t hg ht => ?_⟩
    rcases hcc g t hg ht with w | w
    · refine Or.inl ⟨?_, w.2.2.1, w.2.2.2⟩
      have h1 := w.2.2.2
      unfold cC53 at h1
      show m9 53 (24 * (g : Int) + t) < 1000000
      omega
    · exact Or.inr w.2
  have hop : ∀ g t : Nat, g < G → t < T → (opC m9 g t ↔ (m5 49 g).toNat % 3 ≤ (m5 50 t).toNat % 3) ∧ (opC m9 g t → cC53 m9 g t = ctp (cA 0 n n A) (m 47 0) (m5 49 g).toNat (m5 50 t).toNat) := fun g t hg ht => by
    have hd : opC m9 g t ↔ cC53 m9 g t < 1000000 := Iff.rfl
    rcases hcc g t hg ht with w | w
    · exact ⟨⟨fun _ => w.1, fun _ => hd.mpr (by omega)⟩, fun _ => w.2.1⟩
    · exact ⟨⟨fun z => by have := hd.mp z; omega, fun z => absurd z w.1⟩, fun z => by have := hd.mp z; omega⟩
  have hf0 : ∀ g t : Nat, g < G → t < T → fC m9 g t = 0 := fun g t hg ht => (s2 g t ht (Or.inl hg)).2
  have hF : FLw G T (opC m9) (fun g => m 48 (((m5 49 g).toNat : Nat) : Int)) (fun t => -m 48 (((m5 50 t).toNat : Nat) : Int)) (fun g => m9 51 g) (fun t => m9 52 t) (fC m9) := by
    refine ⟨fun g hg => ?_, fun t ht => ?_, fun g t hg ht => ?_⟩
    · have h1 := hgv g hg
      have h2 : sumg (fun t => fC m9 g t) T = 0 := sumg_0 T (fun t ht => hf0 g t hg ht)
      show 0 ≤ m9 51 g ∧ m9 51 g + sumg (fun t => fC m9 g t) T = m 48 (((m5 49 g).toNat : Nat) : Int)
      rw [fr9 51 g (by omega), h2]
      omega
    · have h1 := htv t ht
      have h2 : sumg (fun g => fC m9 g t) G = 0 := sumg_0 G (fun g hg => hf0 g t hg ht)
      show 0 ≤ m9 52 t ∧ m9 52 t + sumg (fun g => fC m9 g t) G = -m 48 (((m5 50 t).toNat : Nat) : Int)
      rw [fr9 52 t (by omega), h2]
      omega
    · rw [hf0 g t hg ht]
      exact ⟨Int.le_refl _, fun z => absurd z (by decide)⟩
  have hcost : cstF (cC53 m9) (fC m9) G T = 0 := sumg_0 G (fun g hg => sumg_0 T (fun t ht => by
    show cC53 m9 g t * fC m9 g t = 0
    rw [hf0 g t hg ht, Int.mul_zero]))
  have hP : PTd G T (opC m9) (cC53 m9) (fun g => m 48 (((m5 49 g).toNat : Nat) : Int)) (fun _ => 0) (fun _ => 0) := ⟨fun g t hg ht ho => by
    have hd : opC m9 g t ↔ cC53 m9 g t < 1000000 := Iff.rfl
    have := hd.mp ho
    show (0 : Int) ≤ 0 + cC53 m9 g t
    rcases hcc g t hg ht with w | w
    · omega
    · omega, fun _ _ _ => Int.le_refl _⟩
  have hQ : PTt G T (cC53 m9) (fun g => m9 51 g) (fC m9) (fun _ => 0) (fun _ => 0) := ⟨fun g t hg ht hff => by rw [hf0 g t hg ht] at hff; exact absurd hff (by decide), fun _ _ _ => rfl⟩
  have hs : ∀ g : Nat, g < G → 0 < m 48 (((m5 49 g).toNat : Nat) : Int) ∧ m 48 (((m5 49 g).toNat : Nat) : Int) ≤ 50 := fun g hg => ⟨(hgv g hg).2.2.2, (hov _ (hgv g hg).1).2⟩
  have hdm : ∀ t : Nat, t < T → -m 48 (((m5 50 t).toNat : Nat) : Int) ≤ 50 := fun t ht => by
    have := (hov _ (htv t ht).1).1
    omega
  have hsum : sumg (fun t => m9 52 t) T ≤ ((1200 : Nat) : Int) := by
    have := sumg_b (g := fun t => m9 52 t) (B := 50) T (fun t ht => by
      have h1 := htv t ht
      have h2 := hdm t ht
      show 0 ≤ m9 52 t ∧ m9 52 t ≤ (50 : Int)
      rw [fr9 52 t (by omega)]
      omega)
    omega
  have frE : ∀ m' : Mem, FrG m9 m' → ∀ x k : Int, ¬ ((x = 47 ∧ (k = 2 ∨ k = 3)) ∨ (49 ≤ x ∧ x ≤ 58) ∨ x = 3) → m' x k = m x k := fun m' hf x k hx => by
    rw [hf x k (by omega), fr9 x k (by omega), a1 x k (by omega)]
  have key := sp_lpC hE hs hdm (post := fun r8 m8 => post r8 m8) (fun m' paid hf hC => H A m' paid hA1 hA2 (frE m' hf) ⟨G, T, fun g => (m5 49 g).toNat, fun t => (m5 50 t).toNat, opC m9, cC53 m9, fun g hg => ⟨(hgv g hg).1, (hgv g hg).2.2.2⟩, fun t ht => ⟨(htv t ht).1, (htv t ht).2.2.2⟩, a7, a8, hop, Or.inl hC⟩) (fun m' hf hN => H A m' (-1) hA1 hA2 (frE m' hf) ⟨G, T, fun g => (m5 49 g).toNat, fun t => (m5 50 t).toNat, opC m9, cC53 m9, fun g hg => ⟨(hgv g hg).1, (hgv g hg).2.2.2⟩, fun t ht => ⟨(htv t ht).1, (htv t ht).2.2.2⟩, a7, a8, hop, Or.inr ⟨hN, rfl⟩⟩) 1200 0 m9 (fun _ => 0) (fun _ => 0) (by decide) (fun _ _ _ => rfl) hF hP hQ hsum
  rw [hcost] at key
  exact ⟨1201, key⟩
