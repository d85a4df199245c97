/-! the reference's search for the least change -/
theorem el_s {c f y : Int} (hcf : ¬ c = f) : el c f (y + 1) = el c f y + (if y = c ∨ y = f then 0 else 1) := by
  unfold el
  by_cases h1 : c < y
  · rw [if_pos (show c < y + 1 by omega), if_pos h1]
    by_cases h2 : f < y
    · rw [if_pos (show f < y + 1 by omega), if_pos h2, if_neg (by omega)]; omega
    · by_cases h3 : f = y
      · rw [if_pos (show f < y + 1 by omega), if_neg h2, if_pos (by omega)]; omega
      · rw [if_neg (show ¬ f < y + 1 by omega), if_neg h2, if_neg (by omega)]; omega
  · by_cases h4 : c = y
    · rw [if_pos (show c < y + 1 by omega), if_neg h1, if_pos (show y = c ∨ y = f by omega)]
      by_cases h2 : f < y
      · rw [if_pos (show f < y + 1 by omega), if_pos h2]; omega
      · rw [if_neg (show ¬ f < y + 1 by omega), if_neg h2]; omega
    · rw [if_neg (show ¬ c < y + 1 by omega), if_neg h1]
      by_cases h2 : f < y
      · rw [if_pos (show f < y + 1 by omega), if_pos h2, if_neg (by omega)]; omega
      · by_cases h3 : f = y
        · rw [if_pos (show f < y + 1 by omega), if_neg h2, if_pos (by omega)]; omega
        · rw [if_neg (show ¬ f < y + 1 by omega), if_neg h2, if_neg (by omega)]; omega
theorem sp_choice {n : Nat} (hn : 2 ≤ n ∧ n ≤ 8) {b c f : Int} (hb : 0 ≤ b ∧ b < 20) (hcf : ¬ c = f) (hc : 0 ≤ c ∧ c < n) (hf : 0 ≤ f ∧ f < n) {i : Nat} (hi : i < n - 1) {m : Mem} {post : Int → Mem → Prop} (e0 : m 67 0 = n) (e70 : m 70 b = f) (H0 : i = 0 → post c m) (H1 : ∀ y : Int, 1 ≤ i → 0 ≤ y ∧ y < n → ¬ y = c → ¬ y = f → el c f y = (i : Int) - 1 → post y m) : wp_X11_choiceOf b c i m post := by
  have key : ∀ r y : Nat, y + r = n → 1 ≤ (i : Int) - el c f y → (i : Int) - el c f y ≤ 8 → wp_X11_choiceOf_12 post (r + 1) b c ((i : Int) - el c f y) y m := by
    intro r
    induction r with
    | zero =>
      intro y hy h1 _
      have : el c f (y : Int) = (y : Int) - 2 := by
        unfold el; rw [if_pos (by omega), if_pos (by omega)]; omega
      omega
    | succ r ih =>
      intro y hy h1 h8
      have hs := el_s (y := (y : Int)) hcf
      have nx := ih (y + 1) (by omega)
      rw [show (((y + 1 : Nat) : Int)) = (y : Int) + 1 by omega] at nx
      unfold wp_X11_choiceOf_12
      rw [e0, e70, show w32 ((y : Int) + 1) = (y : Int) + 1 from w32_i (by omega), show w32 ((i : Int) - el c f y + (-1)) = (i : Int) - el c f y - 1 from by rw [w32_i (by omega)]; omega]
      refine bf (by omega) ⟨fun q => ?_, fun q => ⟨hb, fun q2 => ?_, fun q2 => ?_⟩⟩
      · rw [if_pos (Or.inl q), Int.add_zero] at hs
        rw [hs] at nx; exact nx h1 h8
      · rw [if_pos (Or.inr q2), Int.add_zero] at hs
        rw [hs] at nx; exact nx h1 h8
      · rw [if_neg (by omega)] at hs
        have hr := el_r (n := (n : Int)) hcf hc hf q q2 (by omega)
        refine ⟨fun q3 => ?_, fun q3 => H1 y (by omega) (by omega) q q2 (by omega)⟩
        rw [hs, show (i : Int) - (el c f y + 1) = (i : Int) - el c f y - 1 by omega] at nx
        exact nx (by omega) (by omega)
  have z : el c f ((0 : Nat) : Int) = 0 := by
    unfold el; rw [if_neg (by omega), if_neg (by omega)]; rfl
  unfold wp_X11_choiceOf
  refine ⟨fun q => ⟨n + 1, ?_⟩, fun q => H0 (by omega)⟩
  have := key n 0 (by omega) (by rw [z]; omega) (by rw [z]; omega)
  rw [z, Int.sub_zero] at this
  exact this
def chM (n : Nat) (c f : Int) (i : Nat) (y : Int) : Prop := (i = 0 ∧ y = c) ∨ (1 ≤ i ∧ (0 ≤ y ∧ y < n) ∧ ¬ y = c ∧ ¬ y = f ∧ el c f y = (i : Int) - 1)
def RowM (n : Nat) (c : Int) (T : Nat) (K : Int) (tb : Nat → Int) (fr to A : Int → Int) (x : Nat) : Prop := (∀ k : Nat, k < T → chM n c (fr (tb k)) (dig (n - 1) T x k) (A (tb k))) ∧ Off T K tb to A
theorem chM_u {n : Nat} {c f : Int} (hcf : ¬ c = f) {i : Nat} {y z : Int} (h : chM n c f i y) (g : chM n c f i z) : y = z := by
  rcases h with h | ⟨a1, a2, a3, a4, a5⟩
  · rcases g with g | g
    · omega
    · omega
  · rcases g with g | ⟨b1, b2, b3, b4, b5⟩
    · omega
    · exact el_u hcf a3 a4 b3 b4 (by omega)
theorem rowM_u {n : Nat} {c : Int} {T : Nat} {K : Int} {tb : Nat → Int} {fr to A B : Int → Int} {x : Nat} (hT : Tn n c T K tb fr to) (h : RowM n c T K tb fr to A x) (g : RowM n c T K tb fr to B x) (b : Int) (b0 : 0 ≤ b) (b1 : b < K) : A b = B b := by
  by_cases q : ∃ k : Nat, k < T ∧ tb k = b
  · obtain ⟨k, k1, k2⟩ := q
    rw [← k2]
    exact chM_u (hT.cf k1).1 (h.1 k k1) (g.1 k k1)
  · have q' : ∀ k : Nat, k < T → ¬ tb k = b := fun k k1 k2 => q ⟨k, k1, k2⟩
    rw [h.2 b b0 b1 q', g.2 b b0 b1 q']
def QM (n : Nat) (c : Int) (T : Nat) (K : Int) (tb : Nat → Int) (fr to ch ld : Int → Int) (x : Nat) : Prop := ∃ A : Int → Int, RowM n c T K tb fr to A x ∧ ACm n c ch A ld
theorem w32_c {a z : Int} {k : Nat} (h : 0 ≤ a ∧ a ≤ k) (hk : k ≤ 10) (hz : z = 1 ∨ z = 0) : w32 (a + z) = a + z := w32_i (by omega)
theorem w32_n {q : Nat} (h : q ≤ 10000) : w32 (q : Int) = q := w32_i (by omega)
theorem sp_figs {n : Nat} {c : Int} {T : Nat} {K : Int} {tb : Nat → Int} {fr to : Int → Int} {m : Mem} {x : Nat} {v3 : Int} (hT : Tn n c T K tb fr to) (hx : x < (n - 1) ^ T) (e0 : m 67 0 = n) (e61 : m 67 61 = T) (h104 : ∀ k : Nat, k < T → m 104 k = tb k) (h70 : ∀ b : Int, 0 ≤ b → b < K → m 70 b = fr b) (hO : Off T K tb to (m 88)) (hR : Rg n K (m 88)) {K181 : Int → Int → Int → Int → Int → Mem → Prop} {post : Int → Mem → Prop}
    (H : ∀ A : Int → Int, RowM n c T K tb fr to A x → Rg n K A → K181 c (((n - 1) ^ T : Nat) : Int) v3 x (cnz (n - 1) T x T) (mrow m 88 A)) : ∃ k : Nat, wp_X11_seekChange_100 K181 post k c (((n - 1) ^ T : Nat) : Int) v3 x 0 (((n - 1) ^ T : Nat) : Int) 0 m := by
  obtain ⟨q1, q2, q3, q4, q5, q6, q7, q8⟩ := id hT
  have hb := pw_b (n := n - 1) (by omega) q3
  have e1 : w32 ((n : Int) - 1) = ((n - 1 : Nat) : Int) := by rw [w32_i (by omega)]; omega
  have key : ∀ (r k : Nat) (A : Int → Int), k + r = T → Off T K tb to A → Rg n K A → (∀ j : Nat, j < k → chM n c (fr (tb j)) (dig (n - 1) T x j) (A (tb j))) → wp_X11_seekChange_100 K181 post (r + 1) c (((n - 1) ^ T : Nat) : Int) v3 x (cnz (n - 1) T x k) (((n - 1) ^ (T - k) : Nat) : Int) k (mrow m 88 A) := by
    intro r
    induction r with
    | zero =>
      intro k A hk o rg g
      have : k = T := by omega
      subst this
      unfold wp_X11_seekChange_100
      rw [mrow_ne (by decide), e61]
      exact bt (by omega) (H A ⟨fun j hj => g j hj, o⟩ rg)
    | succ r ih =>
      intro k A hk o rg g
      have hk10 : k ≤ 10 := by omega
      have hti := q5 k (by omega)
      have hcf := hT.cf (k := k) (by omega)
      have hl : dig (n - 1) T x k < n - 1 := dig_lt (by omega)
      have hpos : 0 < (n - 1) ^ (T - 1 - k) := Nat.pow_pos (by omega)
      have hple := pw_b (n := n - 1) (T := T - 1 - k) (by omega) (by omega)
      have hcz := cnz_r (n - 1) T x k
      have hxd : x / (n - 1) ^ (T - 1 - k) ≤ x := Nat.div_le_self _ _
      have hcs : cnz (n - 1) T x (k + 1) = cnz (n - 1) T x k + (if dig (n - 1) T x k = 0 then 0 else 1) := rfl
      have nx : ∀ (y z : Int), chM n c (fr (tb k)) (dig (n - 1) T x k) y → (0 ≤ y ∧ y < n) → z = cnz (n - 1) T x (k + 1) → wp_X11_seekChange_100 K181 post (r + 1) c (((n - 1) ^ T : Nat) : Int) v3 x z (((n - 1) ^ (T - 1 - k) : Nat) : Int) ((k + 1 : Nat) : Int) (mset (mrow m 88 A) 88 (tb k) y) := by
        intro y z hy hyr hz
        rw [hz, mrow_set, show T - 1 - k = T - (k + 1) by omega]
        refine ih (k + 1) _ (by omega) (fun b b0 b1 hb => ?_) (fun b b0 b1 => ?_) (fun j hj => ?_)
        · rw [rset_ne (fun q => hb k (by omega) q.symm)]; exact o b b0 b1 hb
        · by_cases q : b = tb k
          · rw [rset_eq q]; exact hyr
          · rw [rset_ne q]; exact rg b b0 b1
        · by_cases q : j = k
          · rw [q, rset_eq rfl]; exact hy
          · rw [rset_ne (fun z => q (q6 j k (by omega) (by omega) z))]; exact g j (by omega)
      have hn0 : ¬ ((n - 1 : Nat) : Int) = 0 := by omega
      have hp0 : ¬ (((n - 1) ^ (T - 1 - k) : Nat) : Int) = 0 := by omega
      have hk4 : 0 ≤ (k : Int) ∧ (k : Int) < 4 := by omega
      have e70 : m 70 (tb k) = fr (tb k) := h70 _ hti.1 hti.2
      have h104' := h104 k (by omega)
      have ei := i1 k (by omega)
      have hkT : ¬ (T : Int) ≤ k := by omega
      have ht20 : 0 ≤ tb k ∧ tb k < 20 := by omega
      have hc0 : ∀ z : Int, z = 1 ∨ z = 0 → w32 (cnz (n - 1) T x k + z) = cnz (n - 1) T x k + z := fun z hz => w32_c hcz hk10 hz
      have e2 : w32 (Int.tdiv (((n - 1) ^ (T - k) : Nat) : Int) ((n - 1 : Nat) : Int)) = (((n - 1) ^ (T - 1 - k) : Nat) : Int) := by
        have : (n - 1) ^ (T - k) / (n - 1) = (n - 1) ^ (T - 1 - k) := by
          rw [show T - k = (T - 1 - k) + 1 by omega, Nat.pow_succ, Nat.mul_div_cancel _ (by omega)]
        rw [Int.tdiv_eq_ediv_of_nonneg (Int.natCast_nonneg _), ← Int.natCast_ediv, this, w32_n (by omega)]
      have e3 : Int.tmod (w32 (Int.tdiv (x : Int) (((n - 1) ^ (T - 1 - k) : Nat) : Int))) ((n - 1 : Nat) : Int) = ((dig (n - 1) T x k : Nat) : Int) := by
        rw [Int.tdiv_eq_ediv_of_nonneg (Int.natCast_nonneg _), ← Int.natCast_ediv, w32_n (Nat.le_trans hxd (by omega)), Int.tmod_eq_emod_of_nonneg (Int.natCast_nonneg _)]
        rfl
      unfold wp_X11_seekChange_100
      rw [mrow_ne (by decide), e61, e0, e1, e2]
      refine bf hkT ⟨hn0, eqm ?_⟩
      rw [e3, mrow_ne (by decide), h104', ei]
      refine ⟨hp0, hn0, eqm ⟨hk4, hk4, ?_⟩⟩
      clear e2 e3
      refine sp_choice q1 ht20 hcf.1 q2 hcf.2 hl (by rw [mrow_ne (by decide)]; exact e0) (by rw [mrow_ne (by decide)]; exact e70) (fun z => ⟨ht20, eqm ⟨fun w => absurd (by omega) w, fun w => eqm (nx _ _ (Or.inl ⟨z, rfl⟩) q2 ?_)⟩⟩) (fun y h1 h2 h3 h4 h5 => ⟨ht20, eqm ⟨fun w => eqm (nx _ _ (Or.inr ⟨h1, h2, h3, h4, h5⟩) h2 ?_), fun w => by omega⟩⟩)
      · rw [if_pos z] at hcs; rw [hc0 0 (Or.inr rfl)]; omega
      · rw [if_neg (by omega)] at hcs; rw [hc0 1 (Or.inl rfl)]; omega
  have := key T 0 (m 88) (by omega) hO hR (fun j hj => by omega)
  rw [mrow_self] at this
  exact ⟨T + 1, this⟩
theorem sp_made {K : Int} (hK : 0 ≤ K ∧ K ≤ 20) {m : Mem} {post : Mem → Prop} (e4 : m 67 4 = K) (H : ∀ A : Int → Int, (∀ b : Int, 0 ≤ b → b < K → A b = m 71 b) → post (mrow m 88 A)) : wp_X11_asMade m post := by
  obtain ⟨k, hk⟩ := Int.eq_ofNat_of_zero_le hK.1
  have key : ∀ (r i : Nat) (A : Int → Int), i + r = k → (∀ b : Int, 0 ≤ b → b < i → A b = m 71 b) → wp_X11_asMade_2 post (r + 1) i (mrow m 88 A) := by
    intro r
    induction r with
    | zero =>
      intro i A hi g
      unfold wp_X11_asMade_2
      rw [mrow_ne (by decide), e4]
      exact bt (by omega) (H A (fun b b0 b1 => g b b0 (by omega)))
    | succ r ih =>
      intro i A hi g
      unfold wp_X11_asMade_2
      rw [mrow_ne (by decide), e4, mrow_ne (by decide), i1 i (by omega)]
      refine bf (by omega) ⟨by omega, by omega, eqm ?_⟩
      rw [mrow_set]
      refine ih (i + 1) _ (by omega) (fun b b0 b1 => ?_)
      by_cases q : b = i
      · rw [rset_eq q, q]
      · rw [rset_ne q]; exact g b b0 (by omega)
  have := key k 0 (m 88) (by omega) (fun b b0 b1 => by omega)
  rw [mrow_self] at this
  exact ⟨k + 1, this⟩
theorem sp_cp105 {K : Int} (hK : 0 ≤ K ∧ K ≤ 20) {v1 v2 v3 v4 : Int} {m : Mem} {K85 : Int → Int → Int → Int → Mem → Prop} {post : Int → Mem → Prop} (e4 : m 67 4 = K) (H : ∀ A : Int → Int, (∀ b : Int, 0 ≤ b → b < K → A b = m 88 b) → K85 v1 v2 v3 (w32 (v4 + 1)) (mrow m 105 A)) : ∃ k : Nat, wp_X11_seekChange_206 K85 post k v1 v2 v3 v4 0 m := by
  obtain ⟨k, hk⟩ := Int.eq_ofNat_of_zero_le hK.1
  have key : ∀ (r i : Nat) (A : Int → Int), i + r = k → (∀ b : Int, 0 ≤ b → b < i → A b = m 88 b) → wp_X11_seekChange_206 K85 post (r + 1) v1 v2 v3 v4 i (mrow m 105 A) := by
    intro r
    induction r with
    | zero =>
      intro i A hi g
      unfold wp_X11_seekChange_206
      rw [mrow_ne (by decide), e4]
      exact bt (by omega) (H A (fun b b0 b1 => g b b0 (by omega)))
    | succ r ih =>
      intro i A hi g
      unfold wp_X11_seekChange_206
      rw [mrow_ne (by decide), e4, mrow_ne (by decide), i1 i (by omega)]
      refine bf (by omega) ⟨by omega, by omega, eqm ?_⟩
      rw [mrow_set]
      refine ih (i + 1) _ (by omega) (fun b b0 b1 => ?_)
      by_cases q : b = i
      · rw [rset_eq q, q]
      · rw [rset_ne q]; exact g b b0 (by omega)
  have := key k 0 (m 105) (by omega) (fun b b0 b1 => by omega)
  rw [mrow_self] at this
  exact ⟨k + 1, this⟩
