/-! the class's choices -/
/-- n yards, c closed, T blocks tb that lead there, K blocks in all -/
def Tn (n : Nat) (c : Int) (T : Nat) (K : Int) (tb : Nat → Int) (fr to : Int → Int) : Prop := (2 ≤ n ∧ n ≤ 8) ∧ (0 ≤ c ∧ c < n) ∧ T ≤ 4 ∧ (0 ≤ K ∧ K ≤ 20) ∧ (∀ k : Nat, k < T → 0 ≤ tb k ∧ tb k < K) ∧ (∀ k l : Nat, k < T → l < T → tb k = tb l → k = l) ∧ (∀ b : Int, 0 ≤ b → b < K → (0 ≤ fr b ∧ fr b < n) ∧ (0 ≤ to b ∧ to b < n) ∧ ¬ fr b = to b) ∧ ∀ k : Nat, k < T → to (tb k) = c
theorem Tn.cf {n : Nat} {c : Int} {T : Nat} {K : Int} {tb : Nat → Int} {fr to : Int → Int} (h : Tn n c T K tb fr to) {k : Nat} (hk : k < T) : ¬ c = fr (tb k) ∧ 0 ≤ fr (tb k) ∧ fr (tb k) < n := by
  obtain ⟨-, -, -, -, h5, -, h7, h8⟩ := h
  have a := h5 k hk
  have b := h7 _ a.1 a.2
  rw [h8 k hk] at b
  exact ⟨fun z => b.2.2 z.symm, b.1⟩
/-- how many of the first k figures are not 0 -/
def cnz (B T x : Nat) : Nat → Int
  | 0 => 0
  | k + 1 => cnz B T x k + (if dig B T x k = 0 then 0 else 1)
theorem cnz_r (B T x : Nat) : ∀ k : Nat, 0 ≤ cnz B T x k ∧ cnz B T x k ≤ k
  | 0 => by unfold cnz; omega
  | k + 1 => by
    have := cnz_r B T x k
    unfold cnz
    split <;> omega
theorem cnz_m (B T x k : Nat) : ∀ j : Nat, cnz B T x k ≤ cnz B T x (k + j)
  | 0 => Int.le_refl _
  | j + 1 => by
    have := cnz_m B T x k j
    show _ ≤ cnz B T x (k + j + 1)
    rw [cnz]
    split <;> omega
/-- the class's code tells a choice -/
def VC (n : Nat) (c : Int) (T : Nat) (tb : Nat → Int) (fr : Int → Int) (x : Nat) : Prop := ∀ k : Nat, k < T → VD c (fr (tb k)) (dig (n + 1) T x k)
def yv (c : Int) (e : Nat) : Int := if e = 0 then c else (e : Int) - 1
def Off (T : Nat) (K : Int) (tb : Nat → Int) (to A : Int → Int) : Prop := ∀ b : Int, 0 ≤ b → b < K → (∀ k : Nat, k < T → ¬ tb k = b) → A b = to b
def RowC (n : Nat) (c : Int) (T : Nat) (K : Int) (tb : Nat → Int) (to A : Int → Int) (x : Nat) : Prop := (∀ k : Nat, k < T → A (tb k) = yv c (dig (n + 1) T x k)) ∧ Off T K tb to A
def Rg (n : Nat) (K : Int) (A : Int → Int) : Prop := ∀ b : Int, 0 ≤ b → b < K → 0 ≤ A b ∧ A b < n
theorem pw_b {n T : Nat} (hn : n ≤ 9) (hT : T ≤ 4) : n ^ T ≤ 6561 := by
  refine Nat.le_trans (Nat.pow_le_pow_left hn T) ?_
  rcases (show T = 0 ∨ T = 1 ∨ T = 2 ∨ T = 3 ∨ T = 4 by omega) with rfl | rfl | rfl | rfl | rfl <;> decide
theorem pre_le (B T x k : Nat) : pre B T x k ≤ x := Nat.div_le_self _ _
theorem sp_turn {n : Nat} {c : Int} {T : Nat} {K : Int} {tb : Nat → Int} {to : Int → Int} {m : Mem} {x : Nat} {post : Int → Mem → Prop} (hT : Tn n c T K tb (m 7) to) (hx : x < (n + 1) ^ T) (h63 : m 63 5 = T) (h66 : ∀ k : Nat, k < T → m 66 k = tb k) (hO : Off T K tb to (m 65)) (hR : Rg n K (m 65))
    (H1 : VC n c T tb (m 7) x → ∀ A : Int → Int, RowC n c T K tb to A x → Rg n K A → post (cnz (n + 1) T x T) (mrow m 65 A))
    (H0 : ¬ VC n c T tb (m 7) x → ∀ A : Int → Int, Off T K tb to A → Rg n K A → post (-1) (mrow m 65 A)) : wp_X1_turn x c n m post := by
  obtain ⟨q1, q2, q3, q4, q5, q6, q7, q8⟩ := id hT
  have hb := pw_b (n := n + 1) (by omega) q3
  have key : ∀ (i : Nat) (A : Int → Int), i ≤ T → Off T K tb to A → Rg n K A → (∀ k : Nat, i ≤ k → k < T → A (tb k) = yv c (dig (n + 1) T x k) ∧ VD c (m 7 (tb k)) (dig (n + 1) T x k)) → wp_X1_turn_21 post (i + 1) c n (cnz (n + 1) T x T - cnz (n + 1) T x i) (pre (n + 1) T x i) ((i : Int) - 1) (mrow m 65 A) := by
    intro i
    induction i with
    | zero =>
      intro A hi o r g
      unfold wp_X1_turn_21
      have e : cnz (n + 1) T x T - cnz (n + 1) T x 0 = cnz (n + 1) T x T := by show _ - 0 = _; omega
      rw [e]
      exact bt (by omega) (H1 (fun k hk => (g k (by omega) hk).2) A ⟨fun k hk => (g k (by omega) hk).1, o⟩ r)
    | succ i ih =>
      intro A hi o r g
      have hp := pre_le (n + 1) T x (i + 1)
      have hd := pre_d (B := n + 1) (x := x) (show i < T by omega)
      have hq := pre_q (B := n + 1) (x := x) (show i < T by omega)
      have hl : dig (n + 1) T x i < n + 1 := dig_lt (by omega)
      have hc1 := cnz_r (n + 1) T x T
      have hc2 := cnz_m (n + 1) T x (i + 1) (T - (i + 1))
      rw [show i + 1 + (T - (i + 1)) = T by omega] at hc2
      have hc3 := cnz_r (n + 1) T x (i + 1)
      have hti := q5 i (by omega)
      have hcf := hT.cf (k := i) (by omega)
      have e1 : w32 ((n : Int) + 1) = ((n + 1 : Nat) : Int) := i1 n (by omega)
      have e2 : Int.tmod ((pre (n + 1) T x (i + 1) : Nat) : Int) ((n + 1 : Nat) : Int) = ((dig (n + 1) T x i : Nat) : Int) := by
        rw [Int.tmod_eq_emod_of_nonneg (by omega), ← hd]; rfl
      have e3 : Int.tdiv ((pre (n + 1) T x (i + 1) : Nat) : Int) ((n + 1 : Nat) : Int) = ((pre (n + 1) T x i : Nat) : Int) := by
        rw [Int.tdiv_eq_ediv_of_nonneg (by omega), ← hq]; rfl
      have hp0 := pre_le (n + 1) T x i
      have e66 : m 66 (((i + 1 : Nat) : Int) - 1) = tb i := by rw [show (((i + 1 : Nat) : Int) - 1) = (i : Int) by omega]; exact h66 i (by omega)
      have stp : VD c (m 7 (tb i)) (dig (n + 1) T x i) → wp_X1_turn_91 c n (cnz (n + 1) T x T - cnz (n + 1) T x (i + 1)) (pre (n + 1) T x i) (((i + 1 : Nat) : Int) - 1) ((dig (n + 1) T x i : Int) - 1) (yv c (dig (n + 1) T x i)) (tb i) (mrow m 65 A) (fun v2_7 v3_7 v5_7 v6_7 v7_7 m_7 => wp_X1_turn_21 post (i + 1) v2_7 v3_7 v5_7 v6_7 v7_7 m_7) post := by
        intro hv
        clear e1 e2 e3 hd hq e66
        have nx : ∀ z : Int, z = cnz (n + 1) T x T - cnz (n + 1) T x i → wp_X1_turn_21 post (i + 1) c n z (pre (n + 1) T x i) (w32 (((i + 1 : Nat) : Int) - 1 + (-1))) (mset (mrow m 65 A) 65 (tb i) (yv c (dig (n + 1) T x i))) := by
          intro z hz
          rw [hz, mrow_set, show w32 (((i + 1 : Nat) : Int) - 1 + (-1)) = (i : Int) - 1 by unfold w32; omega]
          refine ih _ (by omega) (fun b b0 b1 hb => ?_) (fun b b0 b1 => ?_) (fun k k0 k1 => ?_)
          · rw [rset_ne (fun q => hb i (by omega) q.symm)]; exact o b b0 b1 hb
          · by_cases q : b = tb i
            · rw [rset_eq q]; unfold yv; split <;> omega
            · rw [rset_ne q]; exact r b b0 b1
          · by_cases q : k = i
            · rw [q, rset_eq rfl]; exact ⟨rfl, hv⟩
            · rw [rset_ne (fun z => q (q6 k i k1 (by omega) z))]; exact g k (by omega) k1
        have hcs : cnz (n + 1) T x (i + 1) = cnz (n + 1) T x i + (if dig (n + 1) T x i = 0 then 0 else 1) := rfl
        unfold wp_X1_turn_91
        refine ⟨by omega, eqm ⟨fun h => eqm (nx _ ?_), fun h => eqm (nx _ ?_)⟩⟩
        · rw [if_neg (by omega)] at hcs; rw [w32_i (by omega)]; omega
        · rw [if_pos (by omega)] at hcs; rw [w32_i (by omega)]; omega
      have nov : ¬ VD c (m 7 (tb i)) (dig (n + 1) T x i) → post (-1) (mrow m 65 A) := fun h => H0 (fun z => h (z i (by omega))) A o r
      unfold wp_X1_turn_21
      rw [e1, e2, e3, mrow_ne (by decide), e66, mrow_ne (by decide)]
      clear e1 e2 e3 hd hq hc1 hc2 hc3 e66
      have hn0 : ¬ ((n + 1 : Nat) : Int) = 0 := by omega
      have h7 : ¬ (((i + 1 : Nat) : Int) - 1 < 0) := by omega
      have h74 : 0 ≤ (((i + 1 : Nat) : Int) - 1) ∧ (((i + 1 : Nat) : Int) - 1) < 4 := by omega
      refine bf h7 ⟨hn0, eqm ⟨hn0, eqm ⟨h74, eqm ?_⟩⟩⟩
      rw [w32_i (x := (dig (n + 1) T x i : Int) - 1) (by omega), w32_i (x := (pre (n + 1) T x i : Int)) (by omega)]
      refine ⟨fun h => nov (fun z => z.1 h), fun h => ⟨by omega, fun h2 => ?_, fun h2 => nov (fun z => z.2 h2)⟩⟩
      have s := stp ⟨h, h2⟩
      unfold yv at s
      refine ⟨fun h3 => ?_, fun h3 => ?_⟩
      · rw [if_neg (by omega)] at s; exact s
      · rw [if_pos (by omega)] at s; exact s
  unfold wp_X1_turn
  rw [h63]
  refine bt (by omega) (eqm ⟨T + 1, ?_⟩)
  have := key T (m 65) (Nat.le_refl _) hO hR (fun k k0 k1 => by omega)
  rw [mrow_self, pre_T, show cnz (n + 1) T x T - cnz (n + 1) T x T = 0 by omega] at this
  rw [w32_i (by omega)]
  exact this
/-- the best choice so far: fewest changes, the first of them -/
def Bm (P : Nat → Prop) (mv : Nat → Int) (ch : Int) (b : Nat) : Prop := (ch = -1 ∧ ∀ v : Nat, ¬ P v) ∨ (0 ≤ ch ∧ P b ∧ mv b = ch ∧ ∀ v : Nat, P v → ch < mv v ∨ (ch = mv v ∧ b ≤ v))
theorem bm_cg {P Q : Nat → Prop} (h : ∀ v : Nat, P v ↔ Q v) {mv : Nat → Int} {ch : Int} {b : Nat} (hB : Bm P mv ch b) : Bm Q mv ch b := by
  rcases hB with ⟨a, c⟩ | ⟨a, d, e, f⟩
  · exact Or.inl ⟨a, fun v q => c v ((h v).mpr q)⟩
  · exact Or.inr ⟨a, (h b).mp d, e, fun v q => f v ((h v).mpr q)⟩
theorem bm_k {P P' : Nat → Prop} {v0 : Nat} (h : ∀ v : Nat, P' v ↔ (P v ∨ v = v0)) (hlt : ∀ v : Nat, P v → v < v0) {mv : Nat → Int} {ch : Int} {b : Nat} (hB : Bm P mv ch b) (h0 : ¬ ch = -1) (hk : ch ≤ mv v0) : Bm P' mv ch b := by
  rcases hB with ⟨a, c⟩ | ⟨a, d, e, f⟩
  · exact absurd a h0
  · refine Or.inr ⟨a, (h b).mpr (Or.inl d), e, fun v q => ?_⟩
    rcases (h v).mp q with z | z
    · exact f v z
    · have := hlt b d; rw [z]; omega
theorem bm_n {P P' : Nat → Prop} {v0 : Nat} (h : ∀ v : Nat, P' v ↔ (P v ∨ v = v0)) {mv : Nat → Int} {ch : Int} {b : Nat} (hB : Bm P mv ch b) (hm : 0 ≤ mv v0) (hk : ch = -1 ∨ mv v0 < ch) : Bm P' mv (mv v0) v0 := by
  refine Or.inr ⟨hm, (h v0).mpr (Or.inr rfl), rfl, fun v q => ?_⟩
  rcases (h v).mp q with z | z
  · rcases hB with ⟨a, c⟩ | ⟨a, d, e, f⟩
    · exact absurd z (c v)
    · have := f v z; omega
  · rw [z]; omega
