/-! the class's search for the least change -/
theorem rowC_u {n : Nat} {c : Int} {T : Nat} {K : Int} {tb : Nat → Int} {to A B : Int → Int} {x : Nat} (h : RowC n c T K tb to A x) (g : RowC n c T K tb to B x) (b : Int) (b0 : 0 ≤ b) (b1 : b < K) : A b = B b := by
  by_cases q : ∃ k : Nat, k < T ∧ tb k = b
  · obtain ⟨k, k1, k2⟩ := q
    rw [← k2, h.1 k k1, g.1 k k1]
  · have q' : ∀ k : Nat, k < T → ¬ tb k = b := fun k k1 k2 => q ⟨k, k1, k2⟩
    rw [h.2 b b0 b1 q', g.2 b b0 b1 q']
def QC (n : Nat) (c : Int) (T : Nat) (K : Int) (tb : Nat → Int) (fr to ch ld : Int → Int) (x : Nat) : Prop := VC n c T tb fr x ∧ ∃ A : Int → Int, RowC n c T K tb to A x ∧ ACm n c ch A ld
def FrK (m m' : Mem) : Prop := ∀ x i : Int, ¬ (x = 12 ∨ (x = 6 ∧ i = 7) ∨ (x = 63 ∧ i = 1) ∨ x = 64 ∨ x = 65) → m' x i = m x i
theorem sp_seekC {n : Nat} {c : Int} {T : Nat} {K : Int} {tb : Nat → Int} {m : Mem} (hT : Tn n c T K tb (m 7) (m 8)) (h63 : m 63 5 = T) (h66 : ∀ k : Nat, k < T → m 66 k = tb k) (hch : ∀ y d : Int, 0 ≤ y → y < n → 0 ≤ d → d < n → m 11 (8 * y + d) = -1 ∨ (0 ≤ m 11 (8 * y + d) ∧ m 11 (8 * y + d) < K)) {post : Mem → Prop} (H : ∀ (m' : Mem) (b : Nat), FrK m m' → Bm (fun x => x < (n + 1) ^ T ∧ QC n c T K tb (m 7) (m 8) (m 11) (m 44) x) (fun x => cnz (n + 1) T x T) (m' 63 1) b → (¬ m' 63 1 = -1 → RowC n c T K tb (m 8) (m' 64) b) → post m') : wp_X1_seek c n 44 m post := by
  obtain ⟨q1, q2, q3, q4, q5, q6, q7, q8⟩ := id hT
  have hb := pw_b (n := n + 1) (by omega) q3
  have main : ∀ (r x : Nat) (m' : Mem) (b : Nat), x + r = (n + 1) ^ T → FrK m m' → Off T K tb (m 8) (m' 65) → Rg n K (m' 65) → Bm (fun v => v < x ∧ QC n c T K tb (m 7) (m 8) (m 11) (m 44) v) (fun x => cnz (n + 1) T x T) (m' 63 1) b → (¬ m' 63 1 = -1 → RowC n c T K tb (m 8) (m' 64) b) → wp_X1_seek_52 post (r + 1) c n 44 (((n + 1) ^ T : Nat) : Int) x m' := by
    intro r
    induction r with
    | zero =>
      intro x m' b hx f o rg hB hr
      unfold wp_X1_seek_52
      refine bt (by omega) (H m' b f ?_ hr)
      rw [show (n + 1) ^ T = x by omega]; exact hB
    | succ r ih =>
      intro x m' b hx f o rg hB hr
      have f7 : m' 7 = m 7 := funext fun i => f 7 i (by omega)
      have f11 : m' 11 = m 11 := funext fun i => f 11 i (by omega)
      have f44 : m' 44 = m 44 := funext fun i => f 44 i (by omega)
      have ei := i1b x (by omega)
      have skip : ∀ v : Nat, ¬ QC n c T K tb (m 7) (m 8) (m 11) (m 44) x → ((v < x ∧ QC n c T K tb (m 7) (m 8) (m 11) (m 44) v) ↔ (v < x + 1 ∧ QC n c T K tb (m 7) (m 8) (m 11) (m 44) v)) := fun v hq => ⟨fun z => ⟨by omega, z.2⟩, fun z => ⟨by
        rcases Nat.lt_or_ge v x with w | w
        · exact w
        · exact absurd (by rw [← show v = x by omega]; exact z.2) hq, z.2⟩⟩
      have take : ∀ v : Nat, QC n c T K tb (m 7) (m 8) (m 11) (m 44) x → ((v < x + 1 ∧ QC n c T K tb (m 7) (m 8) (m 11) (m 44) v) ↔ ((v < x ∧ QC n c T K tb (m 7) (m 8) (m 11) (m 44) v) ∨ v = x)) := fun v hq => ⟨fun z => by
        by_cases w : v = x
        · exact Or.inr w
        · exact Or.inl ⟨by omega, z.2⟩, fun z => z.elim (fun z => ⟨by omega, z.2⟩) (fun z => ⟨by omega, by rw [z]; exact hq⟩)⟩
      have hcz := cnz_r (n + 1) T x T
      unfold wp_X1_seek_52
      refine bf (by omega) ⟨fun hz => H m' b f ?_ hr, fun hz => ?_⟩
      · rcases hB with ⟨a, -⟩ | ⟨a, d, e, g⟩
        · omega
        · refine Or.inr ⟨a, ⟨by omega, d.2⟩, e, fun v hv => ?_⟩
          by_cases w : v < x
          · exact g v ⟨w, hv.2⟩
          · have := cnz_r (n + 1) T v T
            show m' 63 1 < cnz (n + 1) T v T ∨ (m' 63 1 = cnz (n + 1) T v T ∧ b ≤ v)
            omega
      · refine sp_turn (K := K) (tb := tb) (to := m 8) (by rw [f7]; exact hT) (by omega) (by rw [f 63 5 (by omega)]; exact h63) (fun k hk => by rw [f 66 k (by omega)]; exact h66 k hk) o rg (fun hV A hA hRg => ?_) (fun hV A hA hRg => ?_)
        · rw [f7] at hV
          have hfA : FrK m (mrow m' 65 A) := fun y i hy => by rw [mrow_ne (by omega)]; exact f y i hy
          have e63 : mrow m' 65 A 63 1 = m' 63 1 := by rw [mrow_ne (by decide)]
          have e64 : mrow m' 65 A 64 = m' 64 := mrow_ne (by decide)
          have cnt : (m' 63 1 = -1 ∨ cnz (n + 1) T x T < m' 63 1) → wp_X1_seek_105 c n 44 (((n + 1) ^ T : Nat) : Int) x (cnz (n + 1) T x T) 1 (mrow m' 65 A) (fun v1_3 v2_3 v4_3 v5_3 v6_3 m_3 => wp_X1_seek_52 post (r + 1) v1_3 v2_3 v4_3 v5_3 v6_3 m_3) post := by
            intro hlt
            unfold wp_X1_seek_105
            rw [ei]
            refine z1 (sp_acC (K := K) (by omega) (by omega) ⟨?_, ?_⟩ (fun hac m2 g2 => z1 (eqm ⟨by decide, eqm ?_⟩)) (fun hac m2 g2 => z0 ?_))
            · rw [mrow_ne (by decide), f11]; exact hch
            · rw [mrow_s]; exact hRg
            · rw [mrow_ne (by decide), f11, mrow_s, mrow_ne (by decide), f44] at hac
              have hQ : QC n c T K tb (m 7) (m 8) (m 11) (m 44) x := ⟨hV, A, hA, hac⟩
              have g65 : m2 65 = A := by rw [show m2 65 = mrow m' 65 A 65 from funext fun i => g2 65 i (by omega), mrow_s]
              have u65 : mcpy (mset m2 63 1 (cnz (n + 1) T x T)) 65 0 64 0 20 65 = A := by
                funext i; unfold mcpy; rw [if_neg (by omega), mset_r (by decide), g65]
              have u63 : mcpy (mset m2 63 1 (cnz (n + 1) T x T)) 65 0 64 0 20 63 1 = cnz (n + 1) T x T := by
                unfold mcpy; rw [if_neg (by omega), mset_same]
              have u64 : ∀ i : Int, 0 ≤ i → i < K → mcpy (mset m2 63 1 (cnz (n + 1) T x T)) 65 0 64 0 20 64 i = A i := fun i i0 i1 => by
                unfold mcpy; rw [if_pos (by omega), mset_r (by decide), g65, show (0 : Int) + (i - 0) = i by omega]
              refine ih (x + 1) _ x (by omega) (fun y i hy => ?_) (by rw [u65]; exact hA.2) (by rw [u65]; exact hRg) (by rw [u63]; exact bm_n (fun v => take v hQ) hB hcz.1 hlt) (fun _ => ⟨fun k hk => ?_, fun b' b0 b1 hb' => ?_⟩)
              · unfold mcpy
                rw [if_neg (by omega), mset_ne (by omega), g2 y i (by omega)]
                exact hfA y i hy
              · have := q5 k hk
                rw [u64 _ this.1 this.2]; exact hA.1 k hk
              · rw [u64 _ b0 b1]; exact hA.2 b' b0 b1 hb'
            · rw [mrow_ne (by decide), f11, mrow_s, mrow_ne (by decide), f44] at hac
              have hQ : ¬ QC n c T K tb (m 7) (m 8) (m 11) (m 44) x := by
                rintro ⟨-, A', hA', h'⟩
                exact hac (ACm_c hch (fun b b0 b1 => rowC_u hA' hA b b0 b1) h')
              have g65 : m2 65 = A := by rw [show m2 65 = mrow m' 65 A 65 from funext fun i => g2 65 i (by omega), mrow_s]
              have g63 : m2 63 1 = m' 63 1 := by rw [g2 63 1 (by omega), e63]
              have g64 : m2 64 = m' 64 := by rw [show m2 64 = mrow m' 65 A 64 from funext fun i => g2 64 i (by omega), e64]
              refine ih (x + 1) m2 b (by omega) (fun y i hy => by rw [g2 y i (by omega)]; exact hfA y i hy) (by rw [g65]; exact hA.2) (by rw [g65]; exact hRg) (by rw [g63]; exact bm_cg (fun v => skip v hQ) hB) (by rw [g63, g64]; exact hr)
          have nocnt : ¬ m' 63 1 = -1 → m' 63 1 ≤ cnz (n + 1) T x T → wp_X1_seek_105 c n 44 (((n + 1) ^ T : Nat) : Int) x (cnz (n + 1) T x T) 0 (mrow m' 65 A) (fun v1_3 v2_3 v4_3 v5_3 v6_3 m_3 => wp_X1_seek_52 post (r + 1) v1_3 v2_3 v4_3 v5_3 v6_3 m_3) post := by
            intro h1 h2
            unfold wp_X1_seek_105
            rw [ei]
            refine z0 (ih (x + 1) _ b (by omega) hfA (by rw [mrow_s]; exact hA.2) (by rw [mrow_s]; exact hRg) ?_ (by rw [e63, e64]; exact hr))
            rw [e63]
            by_cases hQ : QC n c T K tb (m 7) (m 8) (m 11) (m 44) x
            · exact bm_k (fun v => take v hQ) (fun v hv => hv.1) hB h1 h2
            · exact bm_cg (fun v => skip v hQ) hB
          unfold wp_X1_seek_104 wp_X1_seek_100
          rw [e63]
          exact bf (by omega) ⟨fun h => cnt (Or.inl h), fun h => ⟨fun h2 => nocnt h h2, fun h2 => cnt (Or.inr (by omega))⟩⟩
        · rw [f7] at hV
          unfold wp_X1_seek_104 wp_X1_seek_105
          rw [ei]
          have hQ : ¬ QC n c T K tb (m 7) (m 8) (m 11) (m 44) x := fun z => hV z.1
          refine bt rfl (z0 (ih (x + 1) _ b (by omega) (fun y i hy => by rw [mrow_ne (by omega)]; exact f y i hy) (by rw [mrow_s]; exact hA) (by rw [mrow_s]; exact hRg) ?_ (by rw [mrow_ne (by decide), mrow_ne (by decide)]; exact hr)))
          rw [mrow_ne (by decide)]
          exact bm_cg (fun v => skip v hQ) hB
  have pw : ∀ (m' : Mem), m' 63 5 = T → ((∃ k : Nat, wp_X1_seek_52 post k c n 44 (((n + 1) ^ T : Nat) : Int) 0 m') → ∀ r k : Nat, k + r = T → wp_X1_seek_26 (fun v1_2 v2_2 v4_2 v5_2 v6_2 m_2 => ∃ n_9 : Nat, wp_X1_seek_52 post n_9 v1_2 v2_2 v4_2 v5_2 v6_2 m_2) post (r + 1) c n 44 (((n + 1) ^ k : Nat) : Int) k m') := by
    intro m' e5 hK r
    induction r with
    | zero =>
      intro k hk
      unfold wp_X1_seek_26
      rw [e5]
      refine bt (by omega) ?_
      rw [show k = T by omega]; exact hK
    | succ r ih =>
      intro k hk
      have hle := pw_b (n := n + 1) (T := k + 1) (by omega) (by omega)
      unfold wp_X1_seek_26
      rw [e5, i1 k (by omega)]
      refine bf (by omega) (eqm ?_)
      have e : w32 ((((n + 1) ^ k : Nat) : Int) * w32 ((n : Int) + 1)) = (((n + 1) ^ (k + 1) : Nat) : Int) := by
        rw [i1 n (by omega), ← Int.natCast_mul, ← Nat.pow_succ, w32_i]
        constructor
        · omega
        · show (((n + 1) ^ (k + 1) : Nat) : Int) < _
          omega
      rw [e]
      exact ih (k + 1) (by omega)
  unfold wp_X1_seek
  refine eqm ⟨by decide, eqm ⟨T + 1, ?_⟩⟩
  have u63 : mcpy (mset m 63 1 (-1)) 8 0 65 0 20 63 5 = T := by unfold mcpy; rw [if_neg (by omega), mset_ne (by omega)]; exact h63
  have u631 : mcpy (mset m 63 1 (-1)) 8 0 65 0 20 63 1 = -1 := by unfold mcpy; rw [if_neg (by omega), mset_same]
  have u65 : ∀ i : Int, 0 ≤ i → i < K → mcpy (mset m 63 1 (-1)) 8 0 65 0 20 65 i = m 8 i := fun i i0 i1 => by
    unfold mcpy; rw [if_pos (by omega), mset_r (by decide), show (0 : Int) + (i - 0) = i by omega]
  refine pw _ u63 ⟨(n + 1) ^ T + 1, main ((n + 1) ^ T) 0 _ 0 (by omega) (fun y i hy => ?_) (fun b b0 b1 _ => u65 b b0 b1) (fun b b0 b1 => by rw [u65 b b0 b1]; exact (q7 b b0 b1).2.1) (Or.inl ⟨u631, fun v hv => ?_⟩) (fun z => absurd u631 z)⟩ T 0 (by omega)
  · unfold mcpy; rw [if_neg (by omega), mset_ne (by omega)]
  · have := hv.1; omega
