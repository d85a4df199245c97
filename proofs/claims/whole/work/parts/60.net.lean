/-! what a net costs: both sides -/
theorem bu (v : Int) {q : Nat} (hq : q < 64) : and64 (ushr64 v q) 1 = b64 v q := by
  have e1 : and64 (ushr64 v q) 1 = 1 ↔ b64 v q = 1 := by
    rw [b64_l _ hq, and64_1, ushr64_k hq]
    have e : ∀ X : Int, w64 X % 2 = X % 2 := fun X => by unfold w64; omega
    rw [e]
    have hN : v % 18446744073709551616 = (((v % 18446744073709551616).toNat : Nat) : Int) := by omega
    have g : (BitVec.ofInt 64 v).getLsbD q = ((v % 18446744073709551616).toNat).testBit q := by
      show (BitVec.ofInt 64 v).toNat.testBit q = _
      rw [BitVec.toNat_ofInt]
      rfl
    rw [g, hN, ← Int.natCast_ediv, Nat.testBit_eq_decide_div_mod_eq, decide_eq_true_eq, Int.toNat_natCast]
    generalize (v % 18446744073709551616).toNat / 2 ^ q = M
    omega
  have h1 := b64_01 v q
  have h2 : and64 (ushr64 v q) 1 = 0 ∨ and64 (ushr64 v q) 1 = 1 := by rw [and64_1]; omega
  omega
def lay0 (mi : Int → Int) (r : Int) : Int → Int := fun q => if b64 r q = 1 then mi q else 1000000
def AG (n : Nat) (A B : Int → Int) : Prop := ∀ i j : Int, 0 ≤ i → i < n → 0 ≤ j → j < n → A (8 * i + j) = B (8 * i + j)
theorem cst_ag {n : Nat} (hn : n ≤ 8) {e k i j : Int} {A B : Int → Int} (hk : 0 ≤ k ∧ k < n) (hi : 0 ≤ i ∧ i < n) (hj : 0 ≤ j ∧ j < n) (h : AG n A B) : AG n (cst e k i j A) (cst e k i j B) := by
  have e1 := h i k hi.1 hi.2 hk.1 hk.2
  have e2 := h i j hi.1 hi.2 hj.1 hj.2
  have e3 := h k j hk.1 hk.2 hj.1 hj.2
  unfold cst
  rw [e1, e2, e3]
  split
  · exact h
  · intro x y x1 x2 y1 y2
    by_cases z : 8 * x + y = 8 * i + j
    · rw [rset_eq z, rset_eq z]
    · rw [rset_ne z, rset_ne z]; exact h x y x1 x2 y1 y2
theorem cA_ag {n : Nat} (hn : n ≤ 8) {e : Int} {A B : Int → Int} (h : AG n A B) : AG n (cA e n n A) (cA e n n B) := by
  unfold cA
  refine lp_2 (P := fun A B => AG n A B) (n := n) (fun k A B hk hI => ?_) n A B (by omega) h
  unfold cC
  refine lp_2 (P := fun A B => AG n A B) (n := n) (fun i A B hi hI => ?_) n A B (by omega) hI
  unfold cR
  exact lp_2 (P := fun A B => AG n A B) (n := n) (fun j A B hj hI => cst_ag (k := k) (i := i) (j := j) hn (by omega) (by omega) (by omega) hI) n A B (by omega) hI
theorem cto_ag {n : Nat} {ld A B : Int → Int} (h : AG n A B) : cto ld A n = cto ld B n := by
  unfold cto
  refine fd_c n 0 (fun a x ha => ?_)
  unfold cro
  refine fd_c n x (fun b y hb => ?_)
  unfold cs
  rw [h (a : Int) (b : Int) (by omega) (by omega) (by omega) (by omega)]
theorem CR_ag {n : Nat} {ld A B : Int → Int} (h : AG n A B) (hB : CR n ld B) : CR n ld A := by
  intro a b ha hb
  rw [h (a : Int) (b : Int) (by omega) (by omega) (by omega) (by omega)]
  exact hB a b ha hb
/-- the miles of the net's lines, and the loads, as they stand -/
def NOk (n : Nat) (mi ld : Int → Int) (r : Int) : Prop := (∀ i j : Int, 0 ≤ i → i < n → 0 ≤ j → j < n → i ≠ j → 0 ≤ mi (8 * i + j) ∧ mi (8 * i + j) ≤ 99) ∧ (∀ i j : Int, 0 ≤ i → i < n → 0 ≤ j → j < n → (0 ≤ ld (8 * i + j) ∧ ld (8 * i + j) ≤ 99) ∧ (i = j → ld (8 * i + j) = 0)) ∧ ∀ q : Nat, q < 64 → b64 r q = 1 → q / 8 < n ∧ q % 8 < n ∧ q / 8 ≠ q % 8
def ncost (n : Nat) (e : Int) (mi ld : Int → Int) (r : Int) : Int := cto ld (cA e n n (lay0 mi r)) n
theorem lay0_J {n : Nat} (hn : n ≤ 8) {e : Int} {mi ld B : Int → Int} {r : Int} (hO : NOk n mi ld r) (h1 : ∀ i : Int, 0 ≤ i → i < n → B (8 * i + i) = 0) (h2 : ∀ i j : Int, 0 ≤ i → i < n → 0 ≤ j → j < n → i ≠ j → (b64 r (8 * i + j) = 1 → B (8 * i + j) = mi (8 * i + j) + e) ∧ (¬ b64 r (8 * i + j) = 1 → B (8 * i + j) = 100000000)) : FJ e n 99 (lay0 mi r) B := by
  refine ⟨h1, fun i j i1 i2 j1 j2 ij => ?_⟩
  have w := h2 i j i1 i2 j1 j2 ij
  have v := hO.1 i j i1 i2 j1 j2 ij
  unfold lay0
  by_cases z : b64 r (8 * i + j) = 1
  · rw [if_pos z, w.1 z]; exact Or.inr ⟨v.1, v.2, rfl⟩
  · rw [if_neg z, w.2 z]; exact Or.inl ⟨rfl, rfl⟩
theorem lay0_CR {n : Nat} (hn : n ≤ 8) {e : Int} (he : 0 ≤ e ∧ e ≤ 99) {mi ld : Int → Int} {r : Int} (hO : NOk n mi ld r) : CR n ld (cA e n n (lay0 mi r)) := by
  have J : FJ e n 99 (lay0 mi r) (fun q => if q / 8 = q % 8 then 0 else if b64 r q = 1 then mi q + e else 100000000) := by
    refine lay0_J hn hO (fun i i1 i2 => ?_) (fun i j i1 i2 j1 j2 ij => ?_)
    · rw [if_pos (by omega)]
    · rw [if_neg (by omega)]
      exact ⟨fun z => by rw [if_pos z], fun z => by rw [if_neg z]⟩
  have K := fj_all hn he J n (by omega)
  have hF := FB_r n hn
  intro a b ha hb
  have l := hO.2.1 (a : Int) (b : Int) (by omega) (by omega) (by omega) (by omega)
  refine ⟨l.1, fun p q => ?_⟩
  have := K.2 (a : Int) (b : Int) (by omega) (by omega) (by omega) (by omega) (fun z => by have := l.2 z; omega)
  omega
theorem sp_lay {n : Nat} (hn : n ≤ 8) {r : Int} {m : Mem} {post : Mem → Prop} (h0 : m 1 0 = n) (h : ∀ A : Int → Int, AG n A (lay0 (m 2) r) → post (mrow m 46 A)) : wp_X5_lay r m post := by
  have inner : ∀ (K : Int → Int → Mem → Prop) (a : Nat), a < n → (∀ B : Int → Int, (∀ i j : Int, 0 ≤ i → i < a + 1 → 0 ≤ j → j < n → B (8 * i + j) = lay0 (m 2) r (8 * i + j)) → K r ((a + 1 : Nat) : Int) (mrow m 46 B)) → ∀ (k b : Nat) (B : Int → Int), b + k = n → (∀ i j : Int, 0 ≤ i → (i < a ∨ (i = a ∧ j < b)) → 0 ≤ j → j < n → B (8 * i + j) = lay0 (m 2) r (8 * i + j)) → wp_X5_lay_15 K post (k + 1) r a b (mrow m 46 B) := by
    intro K a ha hK k
    induction k with
    | zero =>
      intro b B hb' hB
      unfold wp_X5_lay_15
      rw [mrow_ne (by decide), h0]
      refine bt (by omega) ?_
      rw [i1 a (by omega)]
      exact hK B (fun i j i1 i2 j1 j2 => hB i j i1 (by omega) j1 j2)
    | succ k ih =>
      intro b B hb' hB
      unfold wp_X5_lay_15
      rw [mrow_ne (by decide), h0, ix8 (by omega) (by omega) (by omega) (by omega), i1 b (by omega)]
      refine bf (by omega) (eqm ?_)
      have e8 : (8 * (a : Int) + (b : Int)) = ((8 * a + b : Nat) : Int) := by omega
      have hbu : and64 (ushr64 r (8 * (a : Int) + b)) 1 = b64 r (8 * (a : Int) + b) := by rw [e8]; exact bu r (by omega)
      rw [hbu]
      have hl : lcmp (b64 r (8 * (a : Int) + b)) 0 = 0 ↔ ¬ b64 r (8 * (a : Int) + b) = 1 := by
        unfold lcmp
        rcases b64_01 r (8 * (a : Int) + b) with z | z <;> rw [z] <;> decide
      have st : ∀ v : Int, v = lay0 (m 2) r (8 * (a : Int) + b) → wp_X5_lay_15 K post (k + 1) r a ((b + 1 : Nat) : Int) (mset (mrow m 46 B) 46 (8 * (a : Int) + b) v) := fun v hv => by
        rw [mrow_set]
        refine ih (b + 1) _ (by omega) (fun i j i1 i2 j1 j2 => ?_)
        by_cases z : 8 * i + j = 8 * (a : Int) + b
        · rw [rset_eq z, hv, z]
        · rw [rset_ne z]; exact hB i j i1 (by omega) j1 j2
      refine ⟨fun z => ⟨by omega, eqm (st _ ?_)⟩, fun z => ⟨by omega, by omega, eqm (st _ ?_)⟩⟩
      · unfold lay0; rw [if_neg (hl.mp z)]
      · unfold lay0; rw [if_pos (Classical.not_not.mp (fun w => z (hl.mpr w))), mrow_ne (by decide)]
  have outer : ∀ (k a : Nat) (B : Int → Int), a + k = n → (∀ i j : Int, 0 ≤ i → i < a → 0 ≤ j → j < n → B (8 * i + j) = lay0 (m 2) r (8 * i + j)) → wp_X5_lay_3 post (k + 1) r a (mrow m 46 B) := by
    intro k
    induction k with
    | zero =>
      intro a B ha hB
      unfold wp_X5_lay_3
      rw [mrow_ne (by decide), h0]
      exact bt (by omega) (h B (fun i j i1 i2 j1 j2 => hB i j i1 (by omega) j1 j2))
    | succ k ih =>
      intro a B ha hB
      unfold wp_X5_lay_3
      rw [mrow_ne (by decide), h0]
      exact bf (by omega) ⟨n + 1, inner _ a (by omega) (fun B' hB' => ih (a + 1) B' (by omega) (fun i j i1 i2 j1 j2 => hB' i j i1 (by omega) j1 j2)) n 0 B (by omega) (fun i j i1 i2 j1 j2 => hB i j i1 (by omega) j1 j2)⟩
  have := outer n 0 (m 46) (by omega) (fun i j i1 i2 j1 j2 => by omega)
  rw [mrow_self] at this
  exact ⟨n + 1, this⟩
theorem sp_costOfC {n : Nat} (hn : n ≤ 8) {r : Int} {m : Mem} {post : Int → Mem → Prop} (h0 : m 1 0 = n) (he : 0 ≤ m 43 0 ∧ m 43 0 ≤ 99) (hO : NOk n (m 2) (m 44) r) (h : ∀ m' : Mem, (∀ c i : Int, ¬ c = 46 → m' c i = m c i) → post (ncost n (m 43 0) (m 2) (m 44) r) m') : wp_X5_costOf r m post := by
  unfold wp_X5_costOf
  refine sp_lay hn h0 (fun A hA => ?_)
  rw [mrow_ne (by decide), mrow_ne (by decide), h0]
  have hA0 : RA n (lay0 (m 2) r) := fun i j i1 i2 j1 j2 ij => by
    have := hO.1 i j i1 i2 j1 j2 ij
    unfold lay0
    split <;> omega
  refine sp_shorten hn he rfl (fun i j i1 i2 j1 j2 ij => by rw [hA i j i1 i2 j1 j2]; exact hA0 i j i1 i2 j1 j2 ij) ?_
  have ag := cA_ag hn (e := m 43 0) hA
  refine sp_costC hn (by rw [mrow_ne (by decide)]; exact h0) ?_ ?_
  · rw [mrow_ne (by decide), mrow_s]
    exact CR_ag ag (lay0_CR hn he hO)
  · rw [mrow_ne (by decide), mrow_s, cto_ag ag]
    exact h _ (fun c i hc => by rw [mrow_ne hc])
theorem sp_costOfM {n : Nat} (hn : n ≤ 8) {e r : Int} {mi ld : Int → Int} {m : Mem} {post : Int → Mem → Prop} (h0 : m 67 0 = n) (he : 0 ≤ e ∧ e ≤ 99) (h24 : m 67 24 = e) (hO : NOk n mi ld r) (h68 : ∀ i j : Int, 0 ≤ i → i < n → 0 ≤ j → j < n → i ≠ j → m 68 (8 * i + j) = mi (8 * i + j)) (h81 : ∀ i j : Int, 0 ≤ i → i < n → 0 ≤ j → j < n → m 81 (8 * i + j) = ld (8 * i + j)) (h : ∀ m' : Mem, (∀ c i : Int, ¬ c = 86 → m' c i = m c i) → post (ncost n e mi ld r) m') : wp_X11_costOf r m post := by
  unfold wp_X11_costOf
  rw [h24]
  refine sp_spread hn he h0 (fun q hq z => ?_) (fun B b1 b2 => ?_)
  · have w := hO.2.2 q hq z
    have w2 := hO.1 ((q / 8 : Nat) : Int) ((q % 8 : Nat) : Int) (by omega) (by omega) (by omega) (by omega) (by omega)
    have w3 := h68 ((q / 8 : Nat) : Int) ((q % 8 : Nat) : Int) (by omega) (by omega) (by omega) (by omega) (by omega)
    rw [show 8 * ((q / 8 : Nat) : Int) + ((q % 8 : Nat) : Int) = (q : Int) by omega] at w2 w3
    omega
  have J : FJ e n 99 (lay0 mi r) B := lay0_J hn hO b1 (fun i j i1 i2 j1 j2 ij => by
    have w := b2 i j i1 i2 j1 j2 ij
    rw [h68 i j i1 i2 j1 j2 ij] at w
    exact w)
  have K := fj_all hn he J n (by omega)
  have hF := FB_r n hn
  refine sp_costM (ld := ld) (A := cA e n n (lay0 mi r)) hn (by rw [mrow_ne (by decide)]; exact h0) (lay0_CR hn he hO) (fun a b ha hb => ?_) (h _ (fun c i hc => by rw [mrow_ne hc]))
  rw [mrow_ne (by decide), mrow_s, mrow_ne (by decide)]
  refine ⟨h81 _ _ (by omega) (by omega) (by omega) (by omega), fun p => ?_⟩
  have l := hO.2.1 (a : Int) (b : Int) (by omega) (by omega) (by omega) (by omega)
  have := K.2 (a : Int) (b : Int) (by omega) (by omega) (by omega) (by omega) (fun z => by have := l.2 z; omega)
  omega
