/-! blocks that lead to a closed yard; both searches find the same -/
def gac (to : Int → Int) (c : Int) (b : Nat) : Nat := cB (fun x => decide (to (x : Int) = c)) b
theorem gac_y {to : Int → Int} {c : Int} {b : Nat} (h : to b = c) : gac to c (b + 1) = gac to c b + 1 := by
  unfold gac
  rw [cB]
  rw [if_pos (decide_eq_true h)]
theorem gac_n {to : Int → Int} {c : Int} {b : Nat} (h : ¬ to b = c) : gac to c (b + 1) = gac to c b := by
  unfold gac
  rw [cB]
  rw [if_neg (by rw [decide_eq_true_eq]; exact h), Nat.add_zero]
theorem gac_s (to : Int → Int) (c : Int) (b : Nat) : gac to c b ≤ gac to c (b + 1) := by
  by_cases h : to b = c
  · rw [gac_y h]; omega
  · rw [gac_n h]; exact Nat.le_refl _
theorem gac_m (to : Int → Int) (c : Int) (b : Nat) : ∀ j : Nat, gac to c b ≤ gac to c (b + j)
  | 0 => Nat.le_refl _
  | j + 1 => Nat.le_trans (gac_m to c b j) (gac_s to c (b + j))
theorem gac_x (to : Int → Int) (c : Int) : ∀ (B k : Nat), k < gac to c B → ∃ b : Nat, b < B ∧ to b = c ∧ gac to c b = k
  | 0, k, h => absurd h (Nat.not_lt_zero _)
  | B + 1, k, h => by
    by_cases q : to B = c
    · rw [gac_y q] at h
      by_cases e : k = gac to c B
      · exact ⟨B, by omega, q, e.symm⟩
      · obtain ⟨b, b1, b2, b3⟩ := gac_x to c B k (by omega)
        exact ⟨b, by omega, b2, b3⟩
    · rw [gac_n q] at h
      obtain ⟨b, b1, b2, b3⟩ := gac_x to c B k h
      exact ⟨b, by omega, b2, b3⟩
theorem gac_lt {to : Int → Int} {c : Int} {b b' : Nat} (h : to b = c) (hb : b < b') : gac to c b < gac to c b' := by
  have := gac_m to c (b + 1) (b' - (b + 1))
  rw [show b + 1 + (b' - (b + 1)) = b' by omega, gac_y h] at this
  omega
/-- the row R holds the blocks that lead to c, in their order -/
def GI (to : Int → Int) (c : Int) (B : Nat) (R : Int → Int) : Prop := ∀ b : Nat, b < B → to b = c → R (gac to c b : Nat) = b
theorem GI_s {to : Int → Int} {c : Int} {B : Nat} {R : Int → Int} (h : GI to c B R) (hB : to B = c) : GI to c (B + 1) (rset R (gac to c B : Nat) B) := by
  intro b hb hc
  by_cases e : b = B
  · rw [e, rset_eq rfl]
  · have := gac_lt hc (show b < B by omega)
    rw [rset_ne (by omega)]; exact h b (by omega) hc
theorem GI_n {to : Int → Int} {c : Int} {B : Nat} {R : Int → Int} (h : GI to c B R) (hB : ¬ to B = c) : GI to c (B + 1) R := by
  intro b hb hc
  by_cases e : b = B
  · rw [e] at hc; exact absurd hc hB
  · exact h b (by omega) hc
theorem sp_gatherC {K : Nat} (hK : K ≤ 20) {c : Int} {m : Mem} {post : Int → Mem → Prop} (e6 : m 6 0 = K) (H1 : gac (m 8) c K ≤ 4 → ∀ R : Int → Int, GI (m 8) c K R → post 1 (mset (mrow m 66 R) 63 5 (gac (m 8) c K : Nat))) (H0 : 4 < gac (m 8) c K → ∀ (R : Int → Int) (z : Int), post 0 (mset (mrow m 66 R) 63 5 z)) : wp_X1_gather c m post := by
  have key : ∀ (r b : Nat) (R : Int → Int), b + r = K → gac (m 8) c b ≤ 4 → GI (m 8) c b R → wp_X1_gather_7 post (r + 1) c b (mset (mrow m 66 R) 63 5 (gac (m 8) c b : Nat)) := by
    intro r
    induction r with
    | zero =>
      intro b R hb h4 g
      have : b = K := by omega
      subst this
      unfold wp_X1_gather_7
      rw [mset_r (by decide), mrow_ne (by decide), e6]
      exact bt (by omega) (H1 h4 R g)
    | succ r ih =>
      intro b R hb h4 g
      have ei := i1 b (by omega)
      unfold wp_X1_gather_7
      rw [mset_r (by decide), mrow_ne (by decide), e6, mset_r (by decide), mrow_ne (by decide), mset_same, ei]
      refine bf (by omega) ⟨by omega, fun q => ⟨fun q2 => ⟨by omega, eqm (eqm ?_)⟩, fun q2 => ?_⟩, fun q => ?_⟩
      · have nx := ih (b + 1) (rset R (gac (m 8) c b : Nat) b) (by omega) (by rw [gac_y q]; omega) (GI_s g q)
        rw [gac_y q] at nx
        have e : mset (mset (mset (mrow m 66 R) 63 5 (gac (m 8) c b : Nat)) 66 (gac (m 8) c b : Nat) b) 63 5 (w32 (mset (mset (mrow m 66 R) 63 5 (gac (m 8) c b : Nat)) 66 (gac (m 8) c b : Nat) b 63 5 + 1)) = mset (mrow m 66 (rset R (gac (m 8) c b : Nat) b)) 63 5 ((gac (m 8) c b + 1 : Nat) : Int) := by
          rw [mset_r (show ¬ (63 : Int) = 66 by decide), mset_same, i1 _ (by omega)]
          funext x i
          rw [mset_at, mset_at, mset_at, mset_at, ← mrow_set, mset_at]
          by_cases a : x = 63 ∧ i = 5
          · rw [if_pos a, if_pos a]
          · rw [if_neg a, if_neg a]
            by_cases d : x = 66 ∧ i = (gac (m 8) c b : Nat)
            · rw [if_pos d, if_neg a]
            · rw [if_neg d, if_neg a]
        rw [e]
        exact nx
      · refine H0 ?_ R _
        have := gac_m (m 8) c (b + 1) (K - (b + 1))
        rw [show b + 1 + (K - (b + 1)) = K by omega, gac_y q] at this
        omega
      · have nx := ih (b + 1) R (by omega) (by rw [gac_n q]; exact h4) (GI_n g q)
        rw [gac_n q] at nx
        exact nx
  unfold wp_X1_gather
  refine eqm ⟨K + 1, ?_⟩
  have := key K 0 (m 66) (by omega) (by show 0 ≤ 4; omega) (fun b hb => by omega)
  rw [mrow_self] at this
  exact this
theorem sp_gatherM {K : Nat} (hK : K ≤ 20) {c w : Int} {to : Int → Int} {m : Mem} {K108 : Int → Int → Int → Mem → Prop} {post : Int → Mem → Prop} (e4 : m 67 4 = K) (h71 : ∀ b : Nat, b < K → m 71 b = to b) (H1 : gac to c K ≤ 4 → ∀ R : Int → Int, GI to c K R → K108 c w 0 (mset (mrow m 104 R) 67 61 (gac to c K : Nat))) (H0 : 4 < gac to c K → ∀ (R : Int → Int) (z : Int), K108 c w 1 (mset (mrow m 104 R) 67 61 z)) : ∀ m1 : Mem, m1 = mset m 67 61 0 → ∃ k : Nat, wp_X11_change_39 K108 post k c w 0 0 m1 := by
  have e4' : ∀ (R : Int → Int) (z : Int), mset (mrow m 104 R) 67 61 z 67 4 = K := fun R z => by rw [mset_ne (by omega), mrow_ne (by decide)]; exact e4
  have e71 : ∀ (R : Int → Int) (z : Int), mset (mrow m 104 R) 67 61 z 71 = m 71 := fun R z => by rw [mset_r (by decide), mrow_ne (by decide)]
  have over : ∀ (r b : Nat) (R : Int → Int) (z : Int), b + r = K → 4 < gac to c b → wp_X11_change_39 K108 post (r + 1) c w 1 b (mset (mrow m 104 R) 67 61 z) := by
    intro r
    induction r with
    | zero =>
      intro b R z hb h4
      unfold wp_X11_change_39
      rw [e4']
      refine bt (by omega) (H0 ?_ R z)
      rw [show K = b by omega]; exact h4
    | succ r ih =>
      intro b R z hb h4
      have nx := ih (b + 1) R z (by omega) (Nat.lt_of_lt_of_le h4 (gac_s to c b))
      unfold wp_X11_change_39 wp_X11_change_71 wp_X11_change_76
      rw [e4', i1 b (by omega)]
      refine bf (by omega) ⟨by omega, fun q => nx, fun q => ⟨fun _ => nt (by decide) nx, fun z => absurd z (by decide)⟩⟩
  have key : ∀ (r b : Nat) (R : Int → Int), b + r = K → gac to c b ≤ 4 → GI to c b R → wp_X11_change_39 K108 post (r + 1) c w 0 b (mset (mrow m 104 R) 67 61 (gac to c b : Nat)) := by
    intro r
    induction r with
    | zero =>
      intro b R hb h4 g
      have : b = K := by omega
      subst this
      unfold wp_X11_change_39
      rw [e4']
      exact bt (by omega) (H1 h4 R g)
    | succ r ih =>
      intro b R hb h4 g
      unfold wp_X11_change_39 wp_X11_change_71 wp_X11_change_76
      rw [e4', i1 b (by omega), e71, h71 b (by omega), mset_same]
      refine bf (by omega) ⟨by omega, fun q => ?_, fun q => ⟨fun z => absurd rfl z, fun _ => ⟨fun q2 => nf rfl ⟨by omega, eqm (eqm ?_)⟩, fun q2 => nt (by decide) ?_⟩⟩⟩
      · have nx := ih (b + 1) R (by omega) (by rw [gac_n q]; exact h4) (GI_n g q)
        rw [gac_n q] at nx
        exact nx
      · have nx := ih (b + 1) (rset R (gac to c b : Nat) b) (by omega) (by rw [gac_y q]; omega) (GI_s g q)
        rw [gac_y q] at nx
        have e : mset (mset (mset (mrow m 104 R) 67 61 (gac to c b : Nat)) 104 (gac to c b : Nat) b) 67 61 (w32 (mset (mset (mrow m 104 R) 67 61 (gac to c b : Nat)) 104 (gac to c b : Nat) b 67 61 + 1)) = mset (mrow m 104 (rset R (gac to c b : Nat) b)) 67 61 ((gac to c b + 1 : Nat) : Int) := by
          rw [mset_r (show ¬ (67 : Int) = 104 by decide), mset_same, i1 _ (by omega)]
          funext x i
          rw [mset_at, mset_at, mset_at, mset_at, ← mrow_set, mset_at]
          by_cases a : x = 67 ∧ i = 61
          · rw [if_pos a, if_pos a]
          · rw [if_neg a, if_neg a]
            by_cases d : x = 104 ∧ i = (gac to c b : Nat)
            · rw [if_pos d, if_neg a]
            · rw [if_neg d, if_neg a]
        rw [e]
        exact nx
      · exact over r (b + 1) R _ (by omega) (by rw [gac_y q]; omega)
  refine eqm ⟨K + 1, ?_⟩
  have := key K 0 (m 104) (by omega) (by show 0 ≤ 4; omega) (fun b hb => by omega)
  rw [mrow_self] at this
  exact this
/-- both codes tell the same choice -/
def CRl (n : Nat) (c : Int) (T : Nat) (tb : Nat → Int) (fr : Int → Int) (x' x : Nat) : Prop := x' < (n - 1) ^ T ∧ x < (n + 1) ^ T ∧ ∀ k : Nat, k < T → DR c (fr (tb k)) (dig (n - 1) T x' k) (dig (n + 1) T x k)
theorem ch_yv {n : Nat} {c f : Int} {i e : Nat} (h : DR c f i e) (he : e < n + 1) : chM n c f i (yv c e) := by
  unfold yv
  rcases h with h | ⟨h1, h2, h3, h4⟩
  · rw [if_pos h.2]; exact Or.inl ⟨h.1, rfl⟩
  · rw [if_neg (by omega)]; exact Or.inr ⟨h1, by omega, h3.1, h3.2, h4⟩
theorem crl_1 {n : Nat} {c : Int} {T : Nat} {K : Int} {tb : Nat → Int} {fr to : Int → Int} (hT : Tn n c T K tb fr to) {x' : Nat} (hx : x' < (n - 1) ^ T) : ∃ x : Nat, CRl n c T tb fr x' x ∧ VC n c T tb fr x := by
  have hn := hT.1
  have ex : ∀ k : Nat, ∃ e : Nat, k < T → e < n + 1 ∧ VD c (fr (tb k)) e ∧ DR c (fr (tb k)) (dig (n - 1) T x' k) e := fun k => by
    by_cases hk : k < T
    · obtain ⟨e, h⟩ := dr_1 (n := n) (hT.cf hk).1 hT.2.1 (hT.cf hk).2 (dig_lt (B := n - 1) (T := T) (x := x') (k := k) (by omega))
      exact ⟨e, fun _ => h⟩
    · exact ⟨0, fun z => absurd z hk⟩
  obtain ⟨e, he⟩ := Classical.axiomOfChoice ex
  obtain ⟨x, x1, x2⟩ := cod_ex (B := n + 1) (by omega) T e (fun k hk => (he k hk).1)
  exact ⟨x, ⟨hx, x1, fun k hk => by rw [x2 k hk]; exact (he k hk).2.2⟩, fun k hk => by rw [x2 k hk]; exact (he k hk).2.1⟩
theorem crl_2 {n : Nat} {c : Int} {T : Nat} {K : Int} {tb : Nat → Int} {fr to : Int → Int} (hT : Tn n c T K tb fr to) {x : Nat} (hx : x < (n + 1) ^ T) (hv : VC n c T tb fr x) : ∃ x' : Nat, CRl n c T tb fr x' x := by
  have hn := hT.1
  have ex : ∀ k : Nat, ∃ i : Nat, k < T → i < n - 1 ∧ DR c (fr (tb k)) i (dig (n + 1) T x k) := fun k => by
    by_cases hk : k < T
    · obtain ⟨i, h⟩ := dr_2 (n := n) (hT.cf hk).1 hT.2.1 (hT.cf hk).2 (dig_lt (B := n + 1) (T := T) (x := x) (k := k) (by omega)) (hv k hk)
      exact ⟨i, fun _ => h⟩
    · exact ⟨0, fun z => absurd z hk⟩
  obtain ⟨i, hi⟩ := Classical.axiomOfChoice ex
  obtain ⟨x', x1, x2⟩ := cod_ex (B := n - 1) (by omega) T i (fun k hk => (hi k hk).1)
  exact ⟨x', x1, hx, fun k hk => by rw [x2 k hk]; exact (hi k hk).2⟩
theorem crl_mv {n : Nat} {c : Int} {T : Nat} {tb : Nat → Int} {fr : Int → Int} {x' x : Nat} (h : CRl n c T tb fr x' x) : ∀ k : Nat, k ≤ T → cnz (n - 1) T x' k = cnz (n + 1) T x k
  | 0, _ => rfl
  | k + 1, hk => by
    have ih := crl_mv h k (by omega)
    have hd := h.2.2 k (by omega)
    rw [cnz, cnz, ih]
    rcases hd with q | q
    · rw [if_pos q.1, if_pos q.2]
    · rw [if_neg (by omega), if_neg (by omega)]
theorem crl_c {n : Nat} {c : Int} {T : Nat} {K : Int} {tb : Nat → Int} {fr to : Int → Int} (hT : Tn n c T K tb fr to) {x' x y' y : Nat} (h : CRl n c T tb fr x' x) (g : CRl n c T tb fr y' y) : (x' < y' ↔ x < y) ∧ (x' = y' ↔ x = y) := by
  have hn := hT.1
  exact cod_cmp (by omega) (by omega) h.1 g.1 h.2.1 g.2.1 (fun k hk => dr_cmp (hT.cf hk).1 (h.2.2 k hk) (g.2.2 k hk))
theorem crl_r {n : Nat} {c : Int} {T : Nat} {K : Int} {tb : Nat → Int} {fr to A : Int → Int} (hT : Tn n c T K tb fr to) {x' x : Nat} (h : CRl n c T tb fr x' x) : RowM n c T K tb fr to A x' ↔ RowC n c T K tb to A x := by
  have cy : ∀ k : Nat, k < T → chM n c (fr (tb k)) (dig (n - 1) T x' k) (yv c (dig (n + 1) T x k)) := fun k hk => ch_yv (h.2.2 k hk) (dig_lt (by omega))
  constructor
  · intro g
    exact ⟨fun k hk => chM_u (hT.cf hk).1 (g.1 k hk) (cy k hk), g.2⟩
  · intro g
    exact ⟨fun k hk => by rw [g.1 k hk]; exact cy k hk, g.2⟩
theorem bm_eq {P P' : Nat → Prop} {mv mv' : Nat → Int} {R : Nat → Nat → Prop} (h1 : ∀ x' : Nat, P' x' → ∃ x : Nat, P x ∧ R x' x) (h2 : ∀ x : Nat, P x → ∃ x' : Nat, P' x' ∧ R x' x) (hm : ∀ x' x : Nat, R x' x → mv' x' = mv x) (hc : ∀ x' x y' y : Nat, R x' x → R y' y → x' ≤ y' → x ≤ y) {ch ch' : Int} {b b' : Nat} (hB : Bm P mv ch b) (hB' : Bm P' mv' ch' b') : ch = ch' ∧ (¬ ch = -1 → R b' b) := by
  rcases hB with ⟨a, e⟩ | ⟨a, d, e, f⟩
  · rcases hB' with ⟨a', e'⟩ | ⟨a', d', e', f'⟩
    · exact ⟨by omega, fun z => absurd a z⟩
    · obtain ⟨x, x1, -⟩ := h1 b' d'
      exact absurd x1 (e x)
  · obtain ⟨b0', g1, g2⟩ := h2 b d
    rcases hB' with ⟨a', e'⟩ | ⟨a', d', e', f'⟩
    · exact absurd g1 (e' b0')
    · obtain ⟨b0, g3, g4⟩ := h1 b' d'
      have k1 := f b0 g3
      have k2 := f' b0' g1
      have k3 := hm _ _ g2
      have k4 := hm _ _ g4
      have k5 : b' ≤ b0' := by omega
      have k6 := hc _ _ _ _ g4 g2 k5
      have k7 : b0 = b := by omega
      rw [k7] at g4
      exact ⟨by omega, fun _ => g4⟩
