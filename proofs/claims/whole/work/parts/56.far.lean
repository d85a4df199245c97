/-! shortest ways: both sides alike; far -/
def FI (e : Int) (n : Nat) (k F G : Int) (A B : Int → Int) : Prop := (∀ i : Int, 0 ≤ i → i < n → B (8 * i + i) = 0) ∧ ∀ i j : Int, 0 ≤ i → i < n → 0 ≤ j → j < n → i ≠ j → (A (8 * i + j) = 1000000 ∧ B (8 * i + j) = 100000000) ∨ (0 ≤ A (8 * i + j) ∧ A (8 * i + j) ≤ G ∧ (i = k ∨ j = k → A (8 * i + j) ≤ F) ∧ B (8 * i + j) = A (8 * i + j) + e)
theorem fi_step {e : Int} {n : Nat} {k F G : Int} {A B : Int → Int} (hn : n ≤ 8) (he : 0 ≤ e ∧ e ≤ 99) (hk : 0 ≤ k ∧ k < n) (hF : 0 ≤ F ∧ F ≤ 100000 ∧ G = 2 * F + 99) {i j : Int} (hi : 0 ≤ i ∧ i < n) (hj : 0 ≤ j ∧ j < n) (h : FI e n k F G A B) : FI e n k F G (cst e k i j A) (mst k i j B) := by
  obtain ⟨d, h⟩ := h
  have same : A = cst e k i j A → B = mst k i j B → FI e n k F G (cst e k i j A) (mst k i j B) := fun a b => by rw [← a, ← b]; exact ⟨d, h⟩
  have B0 : ∀ i j : Int, 0 ≤ i → i < n → 0 ≤ j → j < n → 0 ≤ B (8 * i + j) := fun i j a1 a2 a3 a4 => by
    by_cases q : i = j
    · rw [← q, d i a1 a2]; omega
    · have := h i j a1 a2 a3 a4 q; omega
  by_cases c1 : i = k
  · refine same (by unfold cst; rw [if_pos (Or.inl c1)]) ?_
    unfold mst
    rw [if_pos]
    rw [c1, d k hk.1 hk.2]; omega
  by_cases c2 : j = k
  · refine same (by unfold cst; rw [if_pos (Or.inr (Or.inr (Or.inl c2)))]) ?_
    unfold mst
    rw [if_pos]
    rw [c2, d k hk.1 hk.2]; omega
  by_cases c3 : j = i
  · refine same (by unfold cst; rw [if_pos (Or.inr (Or.inr (Or.inr (Or.inl c3))))]) ?_
    unfold mst
    rw [if_pos]
    have g1 := B0 i k hi.1 hi.2 hk.1 hk.2
    have g2 := B0 k i hk.1 hk.2 hi.1 hi.2
    rw [c3, d i hi.1 hi.2]; omega
  have p := h i k hi.1 hi.2 hk.1 hk.2 c1
  have q := h k j hk.1 hk.2 hj.1 hj.2 (fun z => c2 z.symm)
  have r := h i j hi.1 hi.2 hj.1 hj.2 (fun z => c3 z.symm)
  by_cases w : 1000000 ≤ A (8 * i + k) + e ∨ A (8 * i + j) ≤ A (8 * i + k) + e + A (8 * k + j)
  · refine same (by unfold cst; rw [if_pos (by omega)]) ?_
    unfold mst
    rw [if_pos (by omega)]
  · unfold cst mst
    rw [if_neg (by omega), if_neg (by omega)]
    refine ⟨fun x x1 x2 => ?_, fun x y x1 x2 y1 y2 xy => ?_⟩
    · rw [rset_ne (by omega)]; exact d x x1 x2
    · by_cases z : 8 * x + y = 8 * i + j
      · rw [rset_eq z, rset_eq z]
        refine Or.inr ⟨by omega, by omega, fun z2 => by omega, by omega⟩
      · rw [rset_ne z, rset_ne z]; exact h x y x1 x2 y1 y2 xy
def FB : Nat → Int
  | 0 => 99
  | k + 1 => 2 * FB k + 99
theorem FB_r : ∀ k : Nat, k ≤ 8 → 99 ≤ FB k ∧ FB k ≤ 100000 := by decide
theorem lp_2 {P : (Int → Int) → (Int → Int) → Prop} {f g : Nat → (Int → Int) → (Int → Int)} {n : Nat} (h : ∀ (k : Nat) (A B : Int → Int), k < n → P A B → P (f k A) (g k B)) : ∀ (k : Nat) (A B : Int → Int), k ≤ n → P A B → P (lp f k A) (lp g k B)
  | 0, A, B, _, hA => hA
  | k + 1, A, B, hk, hA => h k _ _ (by omega) (lp_2 h k A B (by omega) hA)
def FJ (e : Int) (n : Nat) (G : Int) (A B : Int → Int) : Prop := (∀ i : Int, 0 ≤ i → i < n → B (8 * i + i) = 0) ∧ ∀ i j : Int, 0 ≤ i → i < n → 0 ≤ j → j < n → i ≠ j → (A (8 * i + j) = 1000000 ∧ B (8 * i + j) = 100000000) ∨ (0 ≤ A (8 * i + j) ∧ A (8 * i + j) ≤ G ∧ B (8 * i + j) = A (8 * i + j) + e)
theorem fj_stage {e : Int} {n : Nat} (hn : n ≤ 8) (he : 0 ≤ e ∧ e ≤ 99) {k : Nat} (hk : k < n) {A B : Int → Int} (h : FJ e n (FB k) A B) : FJ e n (FB (k + 1)) (cC e n k n A) (mC n k n B) := by
  have hF := FB_r k (by omega)
  have e1 : FB (k + 1) = 2 * FB k + 99 := rfl
  have h1 : FI e n k (FB k) (FB (k + 1)) A B := ⟨h.1, fun i j a1 a2 a3 a4 a5 => (h.2 i j a1 a2 a3 a4 a5).elim Or.inl (fun z => Or.inr ⟨z.1, by omega, fun _ => z.2.1, z.2.2⟩)⟩
  have h2 : FI e n k (FB k) (FB (k + 1)) (cC e n k n A) (mC n k n B) := by
    unfold cC mC
    refine lp_2 (P := fun A B => FI e n k (FB k) (FB (k + 1)) A B) (n := n) (fun i A B hi hI => ?_) n A B (by omega) h1
    unfold cR mR
    exact lp_2 (P := fun A B => FI e n k (FB k) (FB (k + 1)) A B) (n := n) (fun j A B hj hI => fi_step (i := i) (j := j) hn he (by omega) (by omega) (by omega) (by omega) hI) n A B (by omega) hI
  exact ⟨h2.1, fun i j a1 a2 a3 a4 a5 => (h2.2 i j a1 a2 a3 a4 a5).elim Or.inl (fun z => Or.inr ⟨z.1, z.2.1, z.2.2.2⟩)⟩
theorem fj_all {e : Int} {n : Nat} (hn : n ≤ 8) (he : 0 ≤ e ∧ e ≤ 99) {A B : Int → Int} (h : FJ e n 99 A B) : ∀ k : Nat, k ≤ n → FJ e n (FB k) (cA e n k A) (mA n k B)
  | 0, _ => h
  | k + 1, hk => fj_stage hn he (by omega) (fj_all hn he h k (by omega))
def b64 (v q : Int) : Int := and64 (shr64 v q) 1
theorem and64_1 (x : Int) : and64 x 1 = x % 2 := by
  unfold and64
  rw [← Int64.toInt_toBitVec, Int64.toBitVec_and, Int64.toBitVec_ofInt, Int64.toBitVec_ofInt]
  have h : (BitVec.ofInt 64 x &&& BitVec.ofInt 64 1).toNat = (x % 2).toNat := by
    rw [BitVec.toNat_and, BitVec.toNat_ofInt, show (BitVec.ofInt 64 1).toNat = 2 ^ 1 - 1 from rfl, Nat.and_two_pow_sub_one_eq_mod]
    omega
  rw [BitVec.toInt_eq_toNat_cond, h]
  rw [if_pos (by omega)]
  omega
theorem b64_01 (v q : Int) : b64 v q = 0 ∨ b64 v q = 1 := by unfold b64; rw [and64_1]; omega
theorem shr64_b (x : Int) {k : Nat} (hk : k < 64) : shr64 x k = ((BitVec.ofInt 64 x).sshiftRight k).toInt := by
  unfold shr64
  have e1 : (Int32.ofInt k).toInt64 &&& 63 = Int64.ofInt k := by
    apply Int64.toBitVec_inj.mp
    rw [Int64.toBitVec_and, Int64.toBitVec_ofInt]
    have hc : ∀ j : Fin 64, ((Int32.ofInt (j.val : Int)).toInt64.toBitVec &&& (63 : Int64).toBitVec) = BitVec.ofInt 64 (j.val : Int) := by decide +kernel
    exact hc ⟨k, hk⟩
  have e2 : ∀ j : Fin 64, ((BitVec.ofInt 64 (j.val : Int)).smod 64).toNat = j.val := by decide +kernel
  rw [e1, ← Int64.toInt_toBitVec, Int64.toBitVec_shiftRight, Int64.toBitVec_ofInt, Int64.toBitVec_ofInt, BitVec.sshiftRight_eq', e2 ⟨k, hk⟩]
theorem b64_l (v : Int) {q : Nat} (hq : q < 64) : b64 v q = 1 ↔ (BitVec.ofInt 64 v).getLsbD q = true := by
  unfold b64
  rw [and64_1, shr64_b v hq]
  have g : ((BitVec.ofInt 64 v).sshiftRight q).getLsbD 0 = (BitVec.ofInt 64 v).getLsbD q := by
    rw [BitVec.getLsbD_sshiftRight]
    simp [hq]
  rw [← g]
  generalize (BitVec.ofInt 64 v).sshiftRight q = X
  have g2 : X.getLsbD 0 = decide (X.toNat % 2 = 1) := Nat.testBit_zero X.toNat
  rw [g2, BitVec.toInt_eq_toNat_cond]
  constructor
  · intro h
    rw [decide_eq_true_eq]
    split at h <;> omega
  · intro h
    rw [decide_eq_true_eq] at h
    split <;> omega
theorem or64_b (a b : Int) : BitVec.ofInt 64 (or64 a b) = BitVec.ofInt 64 a ||| BitVec.ofInt 64 b := by
  unfold or64
  rw [← Int64.toInt_toBitVec, BitVec.ofInt_toInt, Int64.toBitVec_or, Int64.toBitVec_ofInt, Int64.toBitVec_ofInt]
theorem shl64_b {p : Nat} (hp : p < 64) : BitVec.ofInt 64 (shl64 1 p) = BitVec.twoPow 64 p := by
  have hc : ∀ j : Fin 64, BitVec.ofInt 64 (shl64 1 (j.val : Int)) = BitVec.twoPow 64 j.val := by decide +kernel
  exact hc ⟨p, hp⟩
theorem b64_or (v : Int) {p q : Nat} (hp : p < 64) (hq : q < 64) : b64 (or64 v (shl64 1 p)) q = 1 ↔ (p = q ∨ b64 v q = 1) := by
  rw [b64_l _ hq, b64_l _ hq, or64_b, shl64_b hp, BitVec.getLsbD_or, BitVec.getLsbD_twoPow]
  simp [hp]
  exact or_comm
theorem b64_or0 (v : Int) {q : Nat} (hq : q < 64) : b64 (or64 v 0) q = 1 ↔ b64 v q = 1 := by
  rw [b64_l _ hq, b64_l _ hq, or64_b, show BitVec.ofInt 64 0 = 0#64 from rfl]
  simp
theorem b64_0 {q : Nat} (hq : q < 64) : ¬ b64 0 q = 1 := by
  rw [b64_l _ hq, show BitVec.ofInt 64 0 = 0#64 from rfl]
  simp
theorem sp_allLines {n : Nat} (hn : n ≤ 8) {m : Mem} {post : Int → Mem → Prop} (h0 : m 67 0 = n) (h : ∀ r : Int, (∀ q : Nat, q < 64 → (b64 r q = 1 ↔ (q / 8 < n ∧ q % 8 < n ∧ q / 8 ≠ q % 8))) → post r m) : wp_X11_allLines m post := by
  have inner : ∀ (K : Int → Int → Mem → Prop) (a : Nat), a < n → (∀ v : Int, (∀ q : Nat, q < 64 → (b64 v q = 1 ↔ (q / 8 < a + 1 ∧ q % 8 < n ∧ q / 8 ≠ q % 8))) → K v ((a + 1 : Nat) : Int) m) → ∀ (k b : Nat) (v : Int), b + k = n → (∀ q : Nat, q < 64 → (b64 v q = 1 ↔ ((q / 8 < a ∨ (q / 8 = a ∧ q % 8 < b)) ∧ q % 8 < n ∧ q / 8 ≠ q % 8))) → wp_X11_allLines_15 K post (k + 1) v a b m := by
    intro K a ha hK k
    induction k with
    | zero =>
      intro b v hb hv
      unfold wp_X11_allLines_15
      rw [h0]
      refine bt (by omega) ?_
      rw [show w32 ((a : Int) + 1) = ((a + 1 : Nat) : Int) by unfold w32; omega]
      exact hK v (fun q hq => (hv q hq).trans (by omega))
    | succ k ih =>
      intro b v hb hv
      unfold wp_X11_allLines_15
      rw [h0, show w32 ((b : Int) + 1) = ((b + 1 : Nat) : Int) by unfold w32; omega, ix8' (by omega) (by omega) (by omega) (by omega)]
      refine bf (by omega) ⟨fun z => eqm (ih (b + 1) _ (by omega) (fun q hq => ?_)), fun z => eqm (ih (b + 1) _ (by omega) (fun q hq => ?_))⟩
      · rw [show 8 * (a : Int) + (b : Int) = ((8 * a + b : Nat) : Int) by omega, b64_or v (by omega) hq, hv q hq]
        omega
      · rw [b64_or0 v hq, hv q hq]
        omega
  have outer : ∀ (k a : Nat) (v : Int), a + k = n → (∀ q : Nat, q < 64 → (b64 v q = 1 ↔ (q / 8 < a ∧ q % 8 < n ∧ q / 8 ≠ q % 8))) → wp_X11_allLines_4 post (k + 1) v a m := by
    intro k
    induction k with
    | zero => intro a v ha hv; unfold wp_X11_allLines_4; rw [h0]; exact bt (by omega) (h v (by rw [show n = a by omega]; exact (show n = a by omega) ▸ hv))
    | succ k ih =>
      intro a v ha hv
      unfold wp_X11_allLines_4
      rw [h0]
      exact bf (by omega) ⟨n + 1, inner _ a (by omega) (fun v' hv' => ih (a + 1) v' (by omega) hv') n 0 v (by omega) (fun q hq => (hv q hq).trans (by omega))⟩
  exact ⟨n + 1, outer n 0 0 (by omega) (fun q hq => ⟨fun z => absurd z (b64_0 hq), fun z => by omega⟩)⟩
theorem sp_spread {n : Nat} (hn : n ≤ 8) {r e : Int} (he : 0 ≤ e ∧ e ≤ 99) {m : Mem} {post : Mem → Prop} (h0 : m 67 0 = n) (hb : ∀ q : Nat, q < 64 → b64 r q = 1 → 0 ≤ m 68 q ∧ m 68 q ≤ 99)
    (h : ∀ B : Int → Int, (∀ i : Int, 0 ≤ i → i < n → B (8 * i + i) = 0) → (∀ i j : Int, 0 ≤ i → i < n → 0 ≤ j → j < n → i ≠ j → (b64 r (8 * i + j) = 1 → B (8 * i + j) = m 68 (8 * i + j) + e) ∧ (¬ b64 r (8 * i + j) = 1 → B (8 * i + j) = 100000000)) → post (mrow m 86 (mA n n B))) : wp_X11_spread r e m post := by
  have l2 : ∀ (B0 : Int → Int), (∀ q : Nat, q < 64 → (b64 r q = 1 → B0 q = m 68 q + e) ∧ (¬ b64 r q = 1 → B0 q = 100000000)) → ∀ (k i : Nat) (B : Int → Int), i + k = n → (∀ x : Int, 0 ≤ x → x < i → B (8 * x + x) = 0) → (∀ x y : Int, 0 ≤ x → x < 8 → 0 ≤ y → y < 8 → x ≠ y → B (8 * x + y) = B0 (8 * x + y)) → wp_X11_spread_51 (fun v4_2 m_2 => ∃ n_8 : Nat, wp_X11_spread_80 post n_8 v4_2 m_2) post (k + 1) i (mrow m 86 B) := by
    intro B0 hB0 k
    induction k with
    | zero =>
      intro i B hi q1 q2
      unfold wp_X11_spread_51
      rw [mrow_ne (by decide), h0]
      have q3 : ∀ x y : Int, 0 ≤ x → x < n → 0 ≤ y → y < n → x ≠ y → (b64 r (8 * x + y) = 1 → B (8 * x + y) = m 68 (8 * x + y) + e) ∧ (¬ b64 r (8 * x + y) = 1 → B (8 * x + y) = 100000000) := fun x y x1 x2 y1 y2 xy => by
        have := hB0 (8 * x + y).toNat (by omega)
        rw [show (((8 * x + y).toNat : Nat) : Int) = 8 * x + y by omega, ← q2 x y x1 (by omega) y1 (by omega) xy] at this
        exact this
      have q4 : ∀ x : Int, 0 ≤ x → x < n → B (8 * x + x) = 0 := fun x x1 x2 => q1 x x1 (by omega)
      refine bt (by omega) (sp_fwM hn h0 (fun x y x1 x2 y1 y2 => ?_) (h B q4 q3))
      by_cases xy : x = y
      · rw [← xy, q4 x x1 x2]; omega
      · have t := q3 x y x1 x2 y1 y2 xy
        by_cases z : b64 r (8 * x + y) = 1
        · have u := hb (8 * x + y).toNat (by omega)
          rw [show (((8 * x + y).toNat : Nat) : Int) = 8 * x + y by omega] at u
          have := u z
          rw [t.1 z]; omega
        · rw [t.2 z]; omega
    | succ k ih =>
      intro i B hi q1 q2
      unfold wp_X11_spread_51
      rw [mrow_ne (by decide), h0, show w32 ((i : Int) + 1) = ((i + 1 : Nat) : Int) by unfold w32; omega, show w32 (9 * (i : Int)) = 8 * (i : Int) + i by unfold w32; omega]
      refine bf (by omega) ⟨by omega, eqm ?_⟩
      rw [mrow_set]
      refine ih (i + 1) _ (by omega) (fun x x1 x2 => ?_) (fun x y x1 x2 y1 y2 xy => ?_)
      · by_cases z : x = i
        · rw [z, rset_eq rfl]
        · rw [rset_ne (by omega)]; exact q1 x x1 (by omega)
      · rw [rset_ne (by omega)]; exact q2 x y x1 x2 y1 y2 xy
  have l1 : ∀ (k i : Nat) (B : Int → Int), i + k = 64 → (∀ q : Nat, q < i → (b64 r q = 1 → B q = m 68 q + e) ∧ (¬ b64 r q = 1 → B q = 100000000)) → wp_X11_spread_3 (fun v4_1 m_1 => ∃ n_9 : Nat, wp_X11_spread_51 (fun v4_2 m_2 => ∃ n_8 : Nat, wp_X11_spread_80 post n_8 v4_2 m_2) post n_9 v4_1 m_1) post (k + 1) r e i (mrow m 86 B) := by
    intro k
    induction k with
    | zero =>
      intro i B hi q1
      unfold wp_X11_spread_3
      exact bt (by omega) ⟨n + 1, l2 B (fun q hq => q1 q (by omega)) n 0 B (by omega) (fun x x1 x2 => by omega) (fun _ _ _ _ _ _ _ => rfl)⟩
    | succ k ih =>
      intro i B hi q1
      unfold wp_X11_spread_3
      have hl : lcmp (and64 (shr64 r (i : Int)) 1) 1 = 0 ↔ b64 r i = 1 := by
        show lcmp (b64 r i) 1 = 0 ↔ b64 r i = 1
        unfold lcmp
        have := b64_01 r i
        constructor
        · intro z; split at z <;> (try split at z) <;> omega
        · intro z; rw [z]; decide
      rw [show w32 ((i : Int) + 1) = ((i + 1 : Nat) : Int) by unfold w32; omega]
      refine bf (by omega) ⟨fun z => ⟨by omega, eqm ?_⟩, fun z => ⟨by omega, by omega, eqm ?_⟩⟩
      · rw [mrow_set]
        refine ih (i + 1) _ (by omega) (fun q hq => ?_)
        by_cases hqi : q = i
        · rw [hqi, rset_eq rfl]; exact ⟨fun w => absurd (hl.mpr w) z, fun _ => rfl⟩
        · rw [rset_ne (by omega)]; exact q1 q (by omega)
      · have hbi := hb i (by omega) (hl.mp z)
        rw [mrow_set, mrow_ne (by decide), w32_i (x := m 68 (i : Int) + e) (by omega)]
        refine ih (i + 1) _ (by omega) (fun q hq => ?_)
        by_cases hqi : q = i
        · rw [hqi, rset_eq rfl]; exact ⟨fun _ => rfl, fun w => absurd (hl.mp z) w⟩
        · rw [rset_ne (by omega)]; exact q1 q (by omega)
  have := l1 64 0 (m 86) (by omega) (fun q hq => by omega)
  rw [mrow_self] at this
  exact ⟨65, this⟩
theorem sp_measure {n : Nat} (hn : n ≤ 8) {m : Mem} {post : Mem → Prop} (h0 : m 1 0 = n) (hb : ∀ i j : Int, 0 ≤ i → i < n → 0 ≤ j → j < n → i ≠ j → 0 ≤ m 2 (8 * i + j) ∧ m 2 (8 * i + j) ≤ 99)
    (h : ∀ A : Int → Int, (∀ i : Int, 0 ≤ i → i < n → A (8 * i + i) = 0) → (∀ i j : Int, 0 ≤ i → i < n → 0 ≤ j → j < n → i ≠ j → A (8 * i + j) = m 2 (8 * i + j)) → post (mrow m 3 (cA 0 n n A))) : wp_X3_measure m post := by
  have inner : ∀ (K : Int → Mem → Prop) (a : Nat), a < n → (∀ B : Int → Int, (∀ i j : Int, 0 ≤ i → i < a + 1 → 0 ≤ j → j < n → B (8 * i + j) = if i = j then 0 else m 2 (8 * i + j)) → K ((a + 1 : Nat) : Int) (mrow m 3 B)) → ∀ (k b : Nat) (B : Int → Int), b + k = n → (∀ i j : Int, 0 ≤ i → (i < a ∨ (i = a ∧ j < b)) → 0 ≤ j → j < n → B (8 * i + j) = if i = j then 0 else m 2 (8 * i + j)) → wp_X3_measure_12 K post (k + 1) a b (mrow m 3 B) := by
    intro K a ha hK k
    induction k with
    | zero =>
      intro b B hb' hB
      unfold wp_X3_measure_12
      rw [mrow_ne (by decide), h0]
      refine bt (by omega) ?_
      rw [show w32 ((a : Int) + 1) = ((a + 1 : Nat) : Int) by unfold w32; omega]
      exact hK B (fun i j i1 i2 j1 j2 => hB i j i1 (by omega) j1 j2)
    | succ k ih =>
      intro b B hb' hB
      unfold wp_X3_measure_12
      rw [mrow_ne (by decide), h0, mrow_ne (by decide), ix8 (by omega) (by omega) (by omega) (by omega), show w32 ((b : Int) + 1) = ((b + 1 : Nat) : Int) by unfold w32; omega]
      have st : ∀ v : Int, v = (if (a : Int) = b then 0 else m 2 (8 * (a : Int) + b)) → wp_X3_measure_12 K post (k + 1) a ((b + 1 : Nat) : Int) (mset (mrow m 3 B) 3 (8 * (a : Int) + b) v) := fun v hv => by
        rw [mrow_set]
        refine ih (b + 1) _ (by omega) (fun i j i1 i2 j1 j2 => ?_)
        by_cases z : 8 * i + j = 8 * (a : Int) + b
        · rw [rset_eq z, hv, show i = (a : Int) by omega, show j = (b : Int) by omega]
        · rw [rset_ne z]; exact hB i j i1 (by omega) j1 j2
      exact bf (by omega) ⟨fun z => ⟨by omega, by omega, eqm (st _ (by rw [if_neg z]))⟩, fun z => ⟨by omega, eqm (st _ (by rw [if_pos z]))⟩⟩
  have outer : ∀ (k a : Nat) (B : Int → Int), a + k = n → (∀ i j : Int, 0 ≤ i → i < a → 0 ≤ j → j < n → B (8 * i + j) = if i = j then 0 else m 2 (8 * i + j)) → wp_X3_measure_2 (fun m_3 => wp_X3_shorten 3 (m_3 1 0) 0 m_3 (fun m72 => post m72)) post (k + 1) a (mrow m 3 B) := by
    intro k
    induction k with
    | zero =>
      intro a B ha hB
      unfold wp_X3_measure_2
      rw [mrow_ne (by decide), h0]
      refine bt (by omega) ?_
      refine sp_shorten hn (by omega) rfl (fun i j i1 i2 j1 j2 ij => ?_) (h B (fun i i1 i2 => ?_) (fun i j i1 i2 j1 j2 ij => ?_))
      · have := hb i j i1 i2 j1 j2 ij
        rw [hB i j i1 (by omega) j1 j2, if_neg ij]; omega
      · rw [hB i i i1 (by omega) i1 i2, if_pos rfl]
      · rw [hB i j i1 (by omega) j1 j2, if_neg ij]
    | succ k ih =>
      intro a B ha hB
      unfold wp_X3_measure_2
      rw [mrow_ne (by decide), h0]
      exact bf (by omega) ⟨n + 1, inner _ a (by omega) (fun B' hB' => ih (a + 1) B' (by omega) (fun i j i1 i2 j1 j2 => hB' i j i1 (by omega) j1 j2)) n 0 B (by omega) (fun i j i1 i2 j1 j2 => hB i j i1 (by omega) j1 j2)⟩
  have := outer n 0 (m 3) (by omega) (fun i j i1 i2 j1 j2 => by omega)
  rw [mrow_self] at this
  exact ⟨n + 1, this⟩
theorem cA_diag {e : Int} {n : Nat} (hn : n ≤ 8) {A : Int → Int} {x : Int} (hx : 0 ≤ x ∧ x < n) (h : A (8 * x + x) = 0) : cA e n n A (8 * x + x) = 0 := by
  unfold cA
  refine lp_p (P := fun B => B (8 * x + x) = 0) (n := n) (fun k B hk hB => ?_) n A (by omega) h
  unfold cC
  refine lp_p (P := fun B => B (8 * x + x) = 0) (n := n) (fun i B hi hB => ?_) n B (by omega) hB
  unfold cR
  refine lp_p (P := fun B => B (8 * x + x) = 0) (n := n) (fun j B hj hB => ?_) n B (by omega) hB
  unfold cst
  split
  · exact hB
  · rw [rset_ne (by omega)]; exact hB
theorem cA_le {e : Int} {n : Nat} {A : Int → Int} (x : Int) : cA e n n A x ≤ A x := by
  unfold cA
  refine lp_p (P := fun B => B x ≤ A x) (n := n) (fun k B hk hB => ?_) n A (by omega) (by omega)
  unfold cC
  refine lp_p (P := fun B => B x ≤ A x) (n := n) (fun i B hi hB => ?_) n B (by omega) hB
  unfold cR
  refine lp_p (P := fun B => B x ≤ A x) (n := n) (fun j B hj hB => ?_) n B (by omega) hB
  unfold cst
  split
  · exact hB
  · rw [rset_at]
    split
    · rename_i z; rw [z] at hB ⊢; omega
    · exact hB
theorem op_far {m : Mem} (hR : Rel m) (a b : Int) : wp_X10_far a b m (fun r m1 => wp_X11_far a b m1 (fun r2 m2 => r = r2 ∧ Rel m2)) := by
  obtain ⟨n1', n2, n3⟩ := hR.n
  have hl := hR.1.2.2.2
  have no1 : ¬ (0 ≤ a ∧ a < m 1 0 ∧ 0 ≤ b ∧ b < m 1 0) → wp_X11_far a b m (fun r2 m2 => -101 = r2 ∧ Rel m2) := fun q => by
    unfold wp_X11_far
    exact sp_isYard (by omega) (fun x1 x2 => z1 (sp_isYard (by omega) (fun x3 x4 => absurd ⟨x1, by omega, x3, by omega⟩ q) (fun _ => n0 ⟨rfl, hR⟩))) (fun _ => z0 ⟨rfl, hR⟩)
  unfold wp_X10_far
  refine sp_X3_has (fun x1 x2 => z1 (sp_X3_has (fun x3 x4 => n1 ?_) (fun z => n0 (no1 (by omega))))) (fun z => z0 (no1 (by omega)))
  obtain ⟨n, hn⟩ := Int.eq_ofNat_of_zero_le (show 0 ≤ m 1 0 by omega)
  have hn8 : n ≤ 8 := by omega
  refine sp_measure hn8 hn (fun i j i1 i2 j1 j2 ij => ?_) (fun A a1 a2 => ⟨?_, ?_⟩)
  · have := hl i j i1 (by omega) j1 (by omega) ij; omega
  · rw [ix8 x1 (by omega) x3 (by omega)]; omega
  rw [ix8 x1 (by omega) x3 (by omega), mrow_s]
  generalize hm1 : mrow m 3 (cA 0 n n A) = m1
  have f1 : ∀ c i : Int, ¬ Scr c i → m1 c i = m c i := fun c i q => by rw [← hm1, mrow_ne (by unfold Scr at q; omega)]
  have e67 : m1 67 0 = n := by rw [f1 67 0 (by unfold Scr; omega)]; omega
  have e68 : m1 68 = m 68 := funext fun i => f1 68 i (by unfold Scr; omega)
  unfold wp_X11_far
  refine sp_isYard (by omega) (fun _ _ => z1 (sp_isYard (by omega) (fun _ _ => n1 ?_) (fun z => by omega))) (fun z => by omega)
  refine sp_allLines hn8 e67 (fun r hr => sp_spread hn8 (by omega) e67 (fun q hq z => ?_) (fun B b1 b2 => ⟨?_, ?_⟩))
  · have w := (hr q hq).mp z
    have := hl ((q / 8 : Nat) : Int) ((q % 8 : Nat) : Int) (by omega) (by omega) (by omega) (by omega) (by omega)
    rw [show 8 * ((q / 8 : Nat) : Int) + ((q % 8 : Nat) : Int) = (q : Int) by omega] at this
    rw [e68]; omega
  · rw [ix8' x1 (by omega) x3 (by omega)]; omega
  rw [ix8' x1 (by omega) x3 (by omega), mrow_s]
  refine ⟨?_, Rel.frame (fun c i q => by rw [mrow_ne (by unfold Scr at q; omega)]; exact f1 c i q) hR⟩
  have J : FJ 0 n 99 A B := by
    refine ⟨b1, fun i j i1 i2 j1 j2 ij => Or.inr ?_⟩
    have w := hl i j i1 (by omega) j1 (by omega) ij
    have hbit : b64 r (8 * i + j) = 1 := by
      have := (hr (8 * i + j).toNat (by omega)).mpr ⟨by omega, by omega, by omega⟩
      rw [show (((8 * i + j).toNat : Nat) : Int) = 8 * i + j by omega] at this
      exact this
    rw [a2 i j i1 i2 j1 j2 ij, (b2 i j i1 i2 j1 j2 ij).1 hbit, e68]
    omega
  have K := fj_all hn8 (by omega) J n (by omega)
  have hFB := FB_r n hn8
  by_cases ab : a = b
  · subst ab
    rw [cA_diag hn8 (by omega) (a1 a x1 (by omega)), K.1 a x1 (by omega)]
  · have p1 := K.2 a b x1 (by omega) x3 (by omega) ab
    have p2 := cA_le (e := 0) (n := n) (A := A) (8 * a + b)
    have w := hl a b x1 (by omega) x3 (by omega) ab
    rw [a2 a b x1 (by omega) x3 (by omega) ab] at p2
    omega
