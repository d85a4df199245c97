/-! the reference's search, its loops -/
theorem lt_skip {Q : Nat → Prop} {x v : Nat} (hq : ¬ Q x) : (v < x ∧ Q v) ↔ (v < x + 1 ∧ Q v) := by
  constructor
  · intro z; exact ⟨by omega, z.2⟩
  · intro z
    by_cases w : v = x
    · rw [w] at z; exact absurd z.2 hq
    · exact ⟨by omega, z.2⟩
theorem lt_take {Q : Nat → Prop} {x v : Nat} (hq : Q x) : (v < x + 1 ∧ Q v) ↔ ((v < x ∧ Q v) ∨ v = x) := by
  constructor
  · intro z
    by_cases w : v = x
    · exact Or.inr w
    · exact Or.inl ⟨by omega, z.2⟩
  · rintro (z | z)
    · exact ⟨by omega, z.2⟩
    · rw [z]; exact ⟨by omega, hq⟩
def FrL (m m' : Mem) : Prop := ∀ x i : Int, ¬ (x = 88 ∨ x = 103 ∨ x = 105) → m' x i = m x i
theorem sp_seekM {n : Nat} {c : Int} {T : Nat} {K : Int} {tb : Nat → Int} {fr to ch ld : Int → Int} {m : Mem} (hT : Tn n c T K tb fr to) (hch : ∀ y d : Int, 0 ≤ y → y < n → 0 ≤ d → d < n → ch (8 * y + d) = -1 ∨ (0 ≤ ch (8 * y + d) ∧ ch (8 * y + d) < K)) (e0 : m 67 0 = n) (e4 : m 67 4 = K) (e61 : m 67 61 = T) (h104 : ∀ k : Nat, k < T → m 104 k = tb k) (h70 : ∀ b : Int, 0 ≤ b → b < K → m 70 b = fr b) (h71 : ∀ b : Int, 0 ≤ b → b < K → m 71 b = to b) (h81 : ∀ y d : Int, 0 ≤ y → y < n → 0 ≤ d → d < n → m 81 (8 * y + d) = ld (8 * y + d)) (hpk : ∀ y d : Int, 0 ≤ y → y < n → 0 ≤ d → d < n → pick (m 70) (m 72) (m 73) y d (m 67 4).toNat = ch (8 * y + d)) {post : Int → Mem → Prop}
    (H : ∀ (m' : Mem) (best : Int) (b : Nat), FrL m m' → Bm (fun x => x < (n - 1) ^ T ∧ QM n c T K tb fr to ch ld x) (fun x => cnz (n - 1) T x T) best b → (¬ best = -1 → RowM n c T K tb fr to (m' 105) b) → post best m') : wp_X11_seekChange c m post := by
  obtain ⟨q1, q2, q3, q4, q5, q6, q7, q8⟩ := id hT
  obtain ⟨N, hN⟩ : ∃ N : Nat, ∀ _ : Unit, N = (n - 1) ^ T := ⟨_, fun _ => rfl⟩
  have hb : N ≤ 6561 := by rw [hN ()]; exact pw_b (n := n - 1) (by omega) q3
  have main : ∀ (r x : Nat) (m' : Mem) (best : Int) (b : Nat), x + r = N → FrL m m' → (∀ y d : Int, 0 ≤ y → y < n → 0 ≤ d → d < n → m' 103 (8 * y + d) = ch (8 * y + d)) → Off T K tb to (m' 88) → Rg n K (m' 88) → Bm (fun v => v < x ∧ QM n c T K tb fr to ch ld v) (fun x => cnz (n - 1) T x T) best b → (¬ best = -1 → RowM n c T K tb fr to (m' 105) b) → wp_X11_seekChange_85 post (r + 1) c (N : Int) best x m' := by
    intro r
    induction r with
    | zero =>
      intro x m' best b hx f h3 o rg hB hr
      unfold wp_X11_seekChange_85
      refine bt (by omega) (H m' best b f ?_ hr)
      rw [← hN (), show N = x by omega]; exact hB
    | succ r ih =>
      intro x m' best b hx f h3 o rg hB hr
      have ei := i1b x (by omega)
      have skip : ∀ v : Nat, ¬ QM n c T K tb fr to ch ld x → ((v < x ∧ QM n c T K tb fr to ch ld v) ↔ (v < x + 1 ∧ QM n c T K tb fr to ch ld v)) := fun v hq => lt_skip hq
      have take : ∀ v : Nat, QM n c T K tb fr to ch ld x → ((v < x + 1 ∧ QM n c T K tb fr to ch ld v) ↔ ((v < x ∧ QM n c T K tb fr to ch ld v) ∨ v = x)) := fun v hq => lt_take hq
      have hcz := cnz_r (n - 1) T x T
      have e0' : m' 67 0 = n := by rw [f 67 0 (by omega)]; exact e0
      have e4' : m' 67 4 = K := by rw [f 67 4 (by omega)]; exact e4
      unfold wp_X11_seekChange_85
      refine bf (by omega) ?_
      rw [hN ()]
      refine sp_figs hT (by rw [← hN ()]; omega) e0' (by rw [f 67 61 (by omega)]; exact e61) (fun k hk => by rw [f 104 k (by omega)]; exact h104 k hk) (fun b b0 b1 => by rw [f 70 b (by omega)]; exact h70 b b0 b1) o rg (fun A hA hRg => ?_)
      rw [← hN ()]
      have fA : FrL m (mrow m' 88 A) := fun y i hy => by rw [mrow_ne (by omega)]; exact f y i hy
      have A105 : mrow m' 88 A 105 = m' 105 := mrow_ne (by decide)
      have A103 : mrow m' 88 A 103 = m' 103 := mrow_ne (by decide)
      have cnt : (best = -1 ∨ cnz (n - 1) T x T < best) → wp_X11_seekChange_192 c (N : Int) best x (cnz (n - 1) T x T) (mrow m' 88 A) (fun v1_13 v2_13 v3_13 v4_13 m_13 => wp_X11_seekChange_85 post (r + 1) v1_13 v2_13 v3_13 v4_13 m_13) post := by
        intro hlt
        unfold wp_X11_seekChange_192
        rw [ei]
        refine sp_acM (K := K) (ch := ch) (A := A) (ld := ld) (by omega) (by omega) ⟨hch, hRg⟩ (by rw [mrow_ne (by decide)]; exact e0') (by rw [A103]; exact h3) (fun b b0 b1 => by rw [mrow_s]) (fun y d y0 y1 d0 d1 => by rw [fA 81 _ (by omega)]; exact h81 y d y0 y1 d0 d1) (fun hac => z1 ?_) (fun hac => z0 ?_)
        · have hQ : QM n c T K tb fr to ch ld x := ⟨A, hA, hac⟩
          refine sp_cp105 (K := K) q4 (by rw [mrow_ne (by decide)]; exact e4') (fun B hBr => ?_)
          rw [ei]
          refine ih (x + 1) _ _ x (by omega) (fun y i hy => by rw [mrow_ne (by omega)]; exact fA y i hy) (by rw [mrow_ne (by decide), A103]; exact h3) (by rw [mrow_ne (by decide), mrow_s]; exact hA.2) (by rw [mrow_ne (by decide), mrow_s]; exact hRg) (bm_n (fun v => take v hQ) hB hcz.1 hlt) (fun _ => ?_)
          rw [mrow_s] at hBr
          rw [mrow_s]
          refine ⟨fun k hk => ?_, fun b' b0 b1 hb' => ?_⟩
          · have := q5 k hk
            rw [hBr _ this.1 this.2]; exact hA.1 k hk
          · rw [hBr _ b0 b1]; exact hA.2 b' b0 b1 hb'
        · have hQ : ¬ QM n c T K tb fr to ch ld x := by
            rintro ⟨A', hA', h'⟩
            exact hac (ACm_c hch (fun b b0 b1 => rowM_u hT hA' hA b b0 b1) h')
          exact ih (x + 1) _ _ b (by omega) fA (by rw [A103]; exact h3) (by rw [mrow_s]; exact hA.2) (by rw [mrow_s]; exact hRg) (bm_cg (fun v => skip v hQ) hB) (by rw [A105]; exact hr)
      refine ⟨fun h => cnt (Or.inl h), fun h => ⟨fun h2 => ?_, fun h2 => cnt (Or.inr (by omega))⟩⟩
      rw [ei]
      refine ih (x + 1) _ _ b (by omega) fA (by rw [A103]; exact h3) (by rw [mrow_s]; exact hA.2) (by rw [mrow_s]; exact hRg) ?_ (by rw [A105]; exact hr)
      by_cases hQ : QM n c T K tb fr to ch ld x
      · exact bm_k (fun v => take v hQ) (fun v hv => hv.1) hB h h2
      · exact bm_cg (fun v => skip v hQ) hB
  have pw : ∀ (m' : Mem), m' 67 61 = T → m' 67 0 = n → ((∃ k : Nat, wp_X11_seekChange_85 post k c (((n - 1) ^ T : Nat) : Int) (-1) 0 m') → ∀ r k : Nat, k + r = T → wp_X11_seekChange_57 (fun v1_5 v2_5 v3_5 v4_5 m_5 => ∃ n_16 : Nat, wp_X11_seekChange_85 post n_16 v1_5 v2_5 v3_5 v4_5 m_5) post (r + 1) c (((n - 1) ^ k : Nat) : Int) k m') := by
    intro m' e5 e00 hK r
    induction r with
    | zero =>
      intro k hk
      unfold wp_X11_seekChange_57
      rw [e5]
      refine bt (by omega) ?_
      rw [show k = T by omega]; exact hK
    | succ r ih =>
      intro k hk
      have hle := pw_b (n := n - 1) (T := k + 1) (by omega) (by omega)
      have e1 : w32 ((n : Int) - 1) = ((n - 1 : Nat) : Int) := by rw [w32_i (by omega)]; omega
      have e : w32 ((((n - 1) ^ k : Nat) : Int) * w32 ((n : Int) - 1)) = (((n - 1) ^ (k + 1) : Nat) : Int) := by
        rw [e1, ← Int.natCast_mul, ← Nat.pow_succ]
        exact w32_n (Nat.le_trans hle (by decide))
      unfold wp_X11_seekChange_57
      rw [e5, e00, i1 k (by omega)]
      refine bf (by omega) (eqm ?_)
      rw [e]
      exact ih (k + 1) (by omega)
  have inner : ∀ (K2 : Int → Int → Mem → Prop) (a : Nat) (I : Int → Int), a < n → (∀ J : Int → Int, (∀ y d : Int, 0 ≤ y → y < (a + 1 : Nat) → 0 ≤ d → d < n → J (8 * y + d) = ch (8 * y + d)) → K2 c ((a + 1 : Nat) : Int) (mrow m 103 J)) → (∀ y d : Int, 0 ≤ y → y < a → 0 ≤ d → d < n → I (8 * y + d) = ch (8 * y + d)) → ∀ (r e : Nat) (J : Int → Int), e + r = n → (∀ y d : Int, 0 ≤ y → y < a → 0 ≤ d → d < n → J (8 * y + d) = ch (8 * y + d)) → (∀ d : Int, 0 ≤ d → d < e → J (8 * (a : Int) + d) = ch (8 * (a : Int) + d)) → wp_X11_seekChange_12 K2 post (r + 1) c a e (mrow m 103 J) := by
    intro K2 a I ha hK2 _ r
    induction r with
    | zero =>
      intro e J he g1 g2
      unfold wp_X11_seekChange_12
      rw [mrow_ne (by decide), e0, i1 a (by omega)]
      refine bt (by omega) (hK2 J (fun y d y0 y1 d0 d1 => ?_))
      by_cases q : y = a
      · rw [q]; exact g2 d d0 (by omega)
      · exact g1 y d y0 (by omega) d0 d1
    | succ r ih =>
      intro e J he g1 g2
      unfold wp_X11_seekChange_12
      rw [mrow_ne (by decide), e0]
      refine bf (by omega) (sp_goesOf (by rw [mrow_ne (by decide), e4]; exact q4) ?_)
      rw [mrow_ne (by decide), mrow_ne (by decide), mrow_ne (by decide), mrow_ne (by decide), hpk _ _ (by omega) (by omega) (by omega) (by omega), ix8' (by omega) (by omega) (by omega) (by omega), i1 e (by omega)]
      refine ⟨by omega, eqm ?_⟩
      rw [mrow_set]
      refine ih (e + 1) _ (by omega) (fun y d y0 y1 d0 d1 => ?_) (fun d d0 d1 => ?_)
      · rw [rset_ne (by omega)]; exact g1 y d y0 y1 d0 d1
      · by_cases q : d = e
        · rw [q, rset_eq rfl]
        · rw [rset_ne (by omega)]; exact g2 d d0 (by omega)
  have outer : ∀ (r a : Nat) (I : Int → Int), a + r = n → (∀ y d : Int, 0 ≤ y → y < a → 0 ≤ d → d < n → I (8 * y + d) = ch (8 * y + d)) → wp_X11_seekChange_2 (fun v1_3 v2_3 v3_3 m_3 => ∃ n_17 : Nat, wp_X11_seekChange_57 (fun v1_5 v2_5 v3_5 v4_5 m_5 => ∃ n_16 : Nat, wp_X11_seekChange_85 post n_16 v1_5 v2_5 v3_5 v4_5 m_5) post n_17 v1_3 v2_3 v3_3 m_3) post (r + 1) c a (mrow m 103 I) := by
    intro r
    induction r with
    | zero =>
      intro a I ha g
      unfold wp_X11_seekChange_2
      rw [mrow_ne (by decide), e0]
      refine bt (by omega) (sp_made (K := K) q4 (by rw [mrow_ne (by decide)]; exact e4) (fun A hA => ⟨T + 1, ?_⟩))
      rw [mrow_ne (by decide)] at hA
      have hA' : ∀ b : Int, 0 ≤ b → b < K → A b = to b := fun b b0 b1 => by rw [hA b b0 b1, h71 b b0 b1]
      have f2 : FrL m (mrow (mrow m 103 I) 88 A) := fun y i hy => by rw [mrow_ne (by omega), mrow_ne (by omega)]
      refine pw _ (by rw [f2 67 61 (by omega)]; exact e61) (by rw [f2 67 0 (by omega)]; exact e0) ⟨N + 1, ?_⟩ T 0 (by omega)
      rw [← hN ()]
      refine main N 0 _ (-1) 0 (by omega) f2 (fun y d y0 y1 d0 d1 => ?_) (fun b b0 b1 _ => ?_) (fun b b0 b1 => ?_) (Or.inl ⟨rfl, fun v hv => ?_⟩) (fun z => absurd rfl z)
      · rw [mrow_ne (by decide), mrow_s]; exact g y d y0 (by omega) d0 d1
      · rw [mrow_s]; exact hA' b b0 b1
      · rw [mrow_s, hA' b b0 b1]; exact (q7 b b0 b1).2.1
      · have := hv.1; omega
    | succ r ih =>
      intro a I ha g
      unfold wp_X11_seekChange_2
      rw [mrow_ne (by decide), e0]
      exact bf (by omega) ⟨n + 1, inner _ a I (by omega) (fun J hJ => ih (a + 1) J (by omega) hJ) g n 0 I (by omega) g (fun d d0 d1 => by omega)⟩
  have := outer n 0 (m 103) (by omega) (fun y d y0 y1 => by omega)
  rw [mrow_self] at this
  exact ⟨n + 1, this⟩
