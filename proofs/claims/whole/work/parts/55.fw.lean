/-! shortest ways -/
def mrow (m : Mem) (c : Int) (A : Int → Int) : Mem := fun c' i => if c' = c then A i else m c' i
theorem mrow_s (m : Mem) (c : Int) (A : Int → Int) : mrow m c A c = A := by funext i; unfold mrow; rw [if_pos rfl]
theorem mrow_ne {m : Mem} {c c' : Int} {A : Int → Int} (h : ¬ c' = c) : mrow m c A c' = m c' := by funext i; unfold mrow; rw [if_neg h]
theorem mrow_set (m : Mem) (c : Int) (A : Int → Int) (i v : Int) : mset (mrow m c A) c i v = mrow m c (rset A i v) := by
  funext c' j
  rw [mset_at]
  unfold mrow rset
  by_cases h : c' = c
  · rw [if_pos h, if_pos h]
    by_cases hj : j = i
    · rw [if_pos ⟨h, hj⟩, if_pos hj]
    · rw [if_neg (fun z => hj z.2), if_neg hj]
  · rw [if_neg h, if_neg h, if_neg (fun z => h z.1)]
theorem mrow_self (m : Mem) (c : Int) : mrow m c (m c) = m := by
  funext c' j
  unfold mrow
  by_cases h : c' = c
  · rw [if_pos h, h]
  · rw [if_neg h]
def lp (f : Nat → (Int → Int) → (Int → Int)) : Nat → (Int → Int) → (Int → Int)
  | 0, A => A
  | k + 1, A => f k (lp f k A)
def cst (e k i j : Int) (A : Int → Int) : Int → Int := if i = k ∨ 1000000 ≤ A (8 * i + k) + e ∨ j = k ∨ j = i ∨ A (8 * i + j) ≤ A (8 * i + k) + e + A (8 * k + j) then A else rset A (8 * i + j) (A (8 * i + k) + e + A (8 * k + j))
def mst (k i j : Int) (B : Int → Int) : Int → Int := if B (8 * i + j) ≤ B (8 * i + k) + B (8 * k + j) then B else rset B (8 * i + j) (B (8 * i + k) + B (8 * k + j))
def cR (e : Int) (n : Nat) (k i : Int) (j : Nat) (A : Int → Int) : Int → Int := lp (fun j => cst e k i j) j A
def cC (e : Int) (n : Nat) (k : Int) (i : Nat) (A : Int → Int) : Int → Int := lp (fun i => cR e n k i n) i A
def cA (e : Int) (n k : Nat) (A : Int → Int) : Int → Int := lp (fun k => cC e n k n) k A
def mR (n : Nat) (k i : Int) (j : Nat) (A : Int → Int) : Int → Int := lp (fun j => mst k i j) j A
def mC (n : Nat) (k : Int) (i : Nat) (A : Int → Int) : Int → Int := lp (fun i => mR n k i n) i A
def mA (n k : Nat) (A : Int → Int) : Int → Int := lp (fun k => mC n k n) k A
def RA (n : Nat) (A : Int → Int) : Prop := ∀ i j : Int, 0 ≤ i → i < n → 0 ≤ j → j < n → i ≠ j → 0 ≤ A (8 * i + j) ∧ A (8 * i + j) ≤ 1000000
def RB (n : Nat) (B : Int → Int) : Prop := ∀ i j : Int, 0 ≤ i → i < n → 0 ≤ j → j < n → 0 ≤ B (8 * i + j) ∧ B (8 * i + j) ≤ 100000000
theorem lp_p {P : (Int → Int) → Prop} {f : Nat → (Int → Int) → (Int → Int)} {n : Nat} (h : ∀ (k : Nat) (A : Int → Int), k < n → P A → P (f k A)) : ∀ (k : Nat) (A : Int → Int), k ≤ n → P A → P (lp f k A)
  | 0, A, _, hA => hA
  | k + 1, A, hk, hA => h k _ (by omega) (lp_p h k A (by omega) hA)
theorem cst_p {n : Nat} (hn : n ≤ 8) {e : Int} (he : 0 ≤ e) {k i j : Int} {A : Int → Int} (hk : 0 ≤ k ∧ k < n) (hi : 0 ≤ i ∧ i < n) (hj : 0 ≤ j ∧ j < n) (hA : RA n A) : RA n (cst e k i j A) := by
  unfold cst
  split
  · exact hA
  · intro i' j' a1 a2 a3 a4 a5
    have h1 := hA i k hi.1 hi.2 hk.1 hk.2 (by omega)
    have h2 := hA k j hk.1 hk.2 hj.1 hj.2 (by omega)
    have h3 := hA i j hi.1 hi.2 hj.1 hj.2 (by omega)
    by_cases h : 8 * i' + j' = 8 * i + j
    · rw [rset_eq h]; omega
    · rw [rset_ne h]; exact hA i' j' a1 a2 a3 a4 a5
theorem mst_p {n : Nat} (hn : n ≤ 8) {k i j : Int} {A : Int → Int} (hk : 0 ≤ k ∧ k < n) (hi : 0 ≤ i ∧ i < n) (hj : 0 ≤ j ∧ j < n) (hA : RB n A) : RB n (mst k i j A) := by
  unfold mst
  split
  · exact hA
  · intro i' j' a1 a2 a3 a4
    have h1 := hA i k hi.1 hi.2 hk.1 hk.2
    have h2 := hA k j hk.1 hk.2 hj.1 hj.2
    have h3 := hA i j hi.1 hi.2 hj.1 hj.2
    by_cases h : 8 * i' + j' = 8 * i + j
    · rw [rset_eq h]; omega
    · rw [rset_ne h]; exact hA i' j' a1 a2 a3 a4
theorem cst_k {n : Nat} (hn : n ≤ 8) (e k i j : Int) (hk : 0 ≤ k ∧ k < n) (hj : 0 ≤ j ∧ j < n) (A : Int → Int) : cst e k i j A (8 * i + k) = A (8 * i + k) := by
  unfold cst
  split
  · rfl
  · exact rset_ne (by omega)
theorem sp_shortenRow {n : Nat} (hn : n ≤ 8) {e k i v : Int} (he : 0 ≤ e ∧ e ≤ 99) (hv : alen 67 v = 64) (hk : 0 ≤ k ∧ k < n) (hi : 0 ≤ i ∧ i < n) (hik : ¬ i = k) {m : Mem} {A : Int → Int} {post : Mem → Prop} (hA : RA n A) (hs : A (8 * i + k) + e < 1000000) (h : post (mrow m v (cR e n k i n A))) : wp_X3_shortenRow v n i k (A (8 * i + k) + e) (mrow m v A) post := by
  have rk : ∀ j : Nat, j ≤ n → cR e n k i j A (8 * i + k) = A (8 * i + k) ∧ RA n (cR e n k i j A) := fun j hj => by
    refine ⟨?_, ?_⟩
    · exact lp_p (P := fun B => B (8 * i + k) = A (8 * i + k)) (n := n) (fun j' B hj' hB => by rw [cst_k hn e k i j' hk (by omega)]; exact hB) j A hj rfl
    · exact lp_p (P := fun B => RA n B) (n := n) (fun j' B hj' hB => cst_p hn he.1 hk hi (by omega) hB) j A hj hA
  have key : ∀ r j : Nat, j + r = n → wp_X3_shortenRow_3 post (r + 1) v n i k (A (8 * i + k) + e) j (mrow m v (cR e n k i j A)) := by
    intro r
    induction r with
    | zero => intro j hj; unfold wp_X3_shortenRow_3; refine bt (by omega) ?_; rw [show j = n by omega]; exact h
    | succ r ih =>
      intro j hj
      obtain ⟨k1, k2⟩ := rk j (by omega)
      have nx := ih (j + 1) (by omega)
      have e1 : cR e n k i (j + 1) A = cst e k i j (cR e n k i j A) := rfl
      rw [e1] at nx
      generalize cR e n k i j A = B at k1 k2 nx ⊢
      unfold wp_X3_shortenRow_3
      rw [mrow_s, ix8 hk.1 (by omega) (by omega) (by omega), ix8 hi.1 (by omega) (by omega) (by omega), show w32 ((j : Int) + 1) = ((j + 1 : Nat) : Int) by unfold w32; omega, hv]
      refine bf (by omega) ⟨by omega, eqm ?_⟩
      have same : (i = k ∨ 1000000 ≤ B (8 * i + k) + e ∨ (j : Int) = k ∨ (j : Int) = i ∨ B (8 * i + j) ≤ B (8 * i + k) + e + B (8 * k + j)) → wp_X3_shortenRow_3 post (r + 1) v n i k (A (8 * i + k) + e) ((j + 1 : Nat) : Int) (mrow m v B) := fun q => by
        unfold cst at nx
        rw [if_pos q] at nx
        exact nx
      refine ⟨fun q => same (Or.inr (Or.inr (Or.inl q))), fun q1 => ⟨fun q => same (Or.inr (Or.inr (Or.inr (Or.inl q)))), fun q2 => ?_⟩⟩
      have b1 := k2 i k hi.1 hi.2 hk.1 hk.2 hik
      have b2 := k2 k j hk.1 hk.2 (by omega) (by omega) (by omega)
      rw [w32_i (x := A (8 * i + k) + e + B (8 * k + j)) (by omega)]
      refine ⟨by omega, fun q => same (Or.inr (Or.inr (Or.inr (Or.inr (by omega))))), fun q => ⟨by omega, eqm ?_⟩⟩
      unfold cst at nx
      rw [if_neg (by omega), k1] at nx
      rw [mrow_set]
      exact nx
  exact ⟨n + 1, key n 0 (by omega)⟩
theorem sp_shorten {n : Nat} (hn : n ≤ 8) {e v : Int} (he : 0 ≤ e ∧ e ≤ 99) (hv : alen 67 v = 64) {m : Mem} {A : Int → Int} {post : Mem → Prop} (hA : RA n A) (h : post (mrow m v (cA e n n A))) : wp_X3_shorten v n e (mrow m v A) post := by
  have pR : ∀ (k i : Int) (B : Int → Int), 0 ≤ k ∧ k < n → 0 ≤ i ∧ i < n → RA n B → RA n (cR e n k i n B) := fun k i B hk hi hB => lp_p (P := fun B => RA n B) (n := n) (fun j' B hj' hB => cst_p hn he.1 hk hi (by omega) hB) n B (by omega) hB
  have pC : ∀ (k : Int) (i : Nat) (B : Int → Int), 0 ≤ k ∧ k < n → i ≤ n → RA n B → RA n (cC e n k i B) := fun k i B hk hi hB => lp_p (P := fun B => RA n B) (n := n) (fun i' B hi' hB => pR k i' B hk (by omega) hB) i B hi hB
  have pA : ∀ (k : Nat), k ≤ n → RA n (cA e n k A) := fun k hk => lp_p (P := fun B => RA n B) (n := n) (fun k' B hk' hB => pC k' n B (by omega) (by omega) hB) k A hk hA
  have skipR : ∀ (k i : Int) (B : Int → Int), (i = k ∨ 1000000 ≤ B (8 * i + k) + e) → ∀ j : Nat, cR e n k i j B = B := fun k i B q j => by
    induction j with
    | zero => rfl
    | succ j ih =>
      show cst e k i j (cR e n k i j B) = B
      rw [ih]
      unfold cst
      rw [if_pos (q.elim Or.inl (fun z => Or.inr (Or.inl z)))]
  have mid : ∀ (K : Int → Int → Int → Int → Mem → Prop) (k : Nat) (B0 : Int → Int), k < n → RA n B0 → K v n e ((k + 1 : Nat) : Int) (mrow m v (cC e n k n B0)) → ∀ r i : Nat, i + r = n → wp_X3_shorten_10 K post (r + 1) v n e k i (mrow m v (cC e n k i B0)) := by
    intro K k B0 hk hB0 hK r
    induction r with
    | zero =>
      intro i hi
      unfold wp_X3_shorten_10
      refine bt (by omega) ?_
      rw [show i = n by omega, show w32 ((k : Int) + 1) = ((k + 1 : Nat) : Int) by unfold w32; omega]
      exact hK
    | succ r ih =>
      intro i hi
      have hB := pC k i B0 (by omega) (by omega) hB0
      have nx := ih (i + 1) (by omega)
      have e1 : cC e n k (i + 1) B0 = cR e n k i n (cC e n k i B0) := rfl
      rw [e1] at nx
      generalize cC e n k i B0 = B at hB nx ⊢
      unfold wp_X3_shorten_10
      rw [mrow_s, ix8 (by omega) (by omega) (by omega) (by omega), show w32 ((i : Int) + 1) = ((i + 1 : Nat) : Int) by unfold w32; omega, hv]
      refine bf (by omega) ⟨by omega, eqm ?_⟩
      have same : ((i : Int) = k ∨ 1000000 ≤ B (8 * i + k) + e) → wp_X3_shorten_10 K post (r + 1) v n e k ((i + 1 : Nat) : Int) (mrow m v B) := fun q => by
        rw [skipR k i B q n] at nx
        exact nx
      refine ⟨fun q => same (Or.inl q), fun q1 => ?_⟩
      have b1 := hB i k (by omega) (by omega) (by omega) (by omega) q1
      rw [w32_i (x := B (8 * i + k) + e) (by omega)]
      exact ⟨fun q => same (Or.inr q), fun q => sp_shortenRow hn he hv (by omega) (by omega) q1 hB (by omega) nx⟩
  have top : ∀ r k : Nat, k + r = n → wp_X3_shorten_2 post (r + 1) v n e k (mrow m v (cA e n k A)) := by
    intro r
    induction r with
    | zero => intro k hk; unfold wp_X3_shorten_2; refine bt (by omega) ?_; rw [show k = n by omega]; exact h
    | succ r ih =>
      intro k hk
      unfold wp_X3_shorten_2
      refine bf (by omega) ⟨n + 1, ?_⟩
      exact mid (fun v0_2 v1_2 v2_2 v3_2 m_2 => wp_X3_shorten_2 post (r + 1) v0_2 v1_2 v2_2 v3_2 m_2) k (cA e n k A) (by omega) (pA k (by omega)) (ih (k + 1) (by omega)) n 0 (by omega)
  exact ⟨n + 1, top n 0 (by omega)⟩
theorem sp_fwM {n : Nat} (hn : n ≤ 8) {m : Mem} {A : Int → Int} {post : Mem → Prop} (h0 : m 67 0 = n) (hA : RB n A) (h : post (mrow m 86 (mA n n A))) : ∃ f : Nat, wp_X11_spread_80 post f 0 (mrow m 86 A) := by
  have e0 : ∀ B : Int → Int, mrow m 86 B 67 0 = n := fun B => by rw [mrow_ne (by decide)]; exact h0
  have pR : ∀ (k i : Int) (j : Nat) (B : Int → Int), 0 ≤ k ∧ k < n → 0 ≤ i ∧ i < n → j ≤ n → RB n B → RB n (mR n k i j B) := fun k i j B hk hi hj hB => lp_p (P := fun B => RB n B) (n := n) (fun j' B hj' hB => mst_p hn hk hi (by omega) hB) j B hj hB
  have pC : ∀ (k : Int) (i : Nat) (B : Int → Int), 0 ≤ k ∧ k < n → i ≤ n → RB n B → RB n (mC n k i B) := fun k i B hk hi hB => lp_p (P := fun B => RB n B) (n := n) (fun i' B hi' hB => pR k i' n B hk (by omega) (by omega) hB) i B hi hB
  have pA : ∀ (k : Nat), k ≤ n → RB n (mA n k A) := fun k hk => lp_p (P := fun B => RB n B) (n := n) (fun k' B hk' hB => pC k' n B (by omega) (by omega) hB) k A hk hA
  have row : ∀ (K : Int → Int → Mem → Prop) (k i : Nat) (B0 : Int → Int), k < n → i < n → RB n B0 → K k ((i + 1 : Nat) : Int) (mrow m 86 (mR n k i n B0)) → ∀ r j : Nat, j + r = n → wp_X11_spread_104 K post (r + 1) k i j (mrow m 86 (mR n k i j B0)) := by
    intro K k i B0 hk hi hB0 hK r
    induction r with
    | zero =>
      intro j hj
      unfold wp_X11_spread_104
      rw [e0]
      refine bt (by omega) ?_
      rw [show j = n by omega, show w32 ((i : Int) + 1) = ((i + 1 : Nat) : Int) by unfold w32; omega]
      exact hK
    | succ r ih =>
      intro j hj
      have hB := pR k i j B0 (by omega) (by omega) (by omega) hB0
      have nx := ih (j + 1) (by omega)
      have e1 : mR n k i (j + 1) B0 = mst k i j (mR n k i j B0) := rfl
      rw [e1] at nx
      generalize mR n k i j B0 = B at hB nx ⊢
      unfold wp_X11_spread_104
      rw [e0, mrow_s, ix8' (a := (i : Int)) (b := (k : Int)) (by omega) (by omega) (by omega) (by omega), ix8' (a := (k : Int)) (b := (j : Int)) (by omega) (by omega) (by omega) (by omega), ix8' (a := (i : Int)) (b := (j : Int)) (by omega) (by omega) (by omega) (by omega), show w32 ((j : Int) + 1) = ((j + 1 : Nat) : Int) by unfold w32; omega]
      have b1 := hB i k (by omega) (by omega) (by omega) (by omega)
      have b2 := hB k j (by omega) (by omega) (by omega) (by omega)
      refine bf (by omega) ⟨by omega, by omega, eqm ?_⟩
      rw [w32_i (x := B (8 * i + k) + B (8 * k + j)) (by omega)]
      refine ⟨by omega, fun q => ⟨by omega, by omega, eqm ?_⟩, fun q => ⟨by omega, eqm ?_⟩⟩
      · unfold mst at nx
        rw [if_pos q] at nx
        rw [mrow_set, show rset B (8 * i + j) (B (8 * i + j)) = B from funext fun x => by rw [rset_at]; split <;> simp_all]
        exact nx
      · unfold mst at nx
        rw [if_neg q] at nx
        rw [mrow_set]
        exact nx
  have mid : ∀ (K : Int → Mem → Prop) (k : Nat) (B0 : Int → Int), k < n → RB n B0 → K ((k + 1 : Nat) : Int) (mrow m 86 (mC n k n B0)) → ∀ r i : Nat, i + r = n → wp_X11_spread_92 K post (r + 1) k i (mrow m 86 (mC n k i B0)) := by
    intro K k B0 hk hB0 hK r
    induction r with
    | zero =>
      intro i hi
      unfold wp_X11_spread_92
      rw [e0]
      refine bt (by omega) ?_
      rw [show i = n by omega, show w32 ((k : Int) + 1) = ((k + 1 : Nat) : Int) by unfold w32; omega]
      exact hK
    | succ r ih =>
      intro i hi
      have hB := pC k i B0 (by omega) (by omega) hB0
      unfold wp_X11_spread_92
      rw [e0]
      refine bf (by omega) ⟨n + 1, ?_⟩
      exact row (fun v4_4 v5_4 m_4 => wp_X11_spread_92 K post (r + 1) v4_4 v5_4 m_4) k i (mC n k i B0) hk (by omega) hB (ih (i + 1) (by omega)) n 0 (by omega)
  have top : ∀ r k : Nat, k + r = n → wp_X11_spread_80 post (r + 1) k (mrow m 86 (mA n k A)) := by
    intro r
    induction r with
    | zero => intro k hk; unfold wp_X11_spread_80; rw [e0]; refine bt (by omega) ?_; rw [show k = n by omega]; exact h
    | succ r ih =>
      intro k hk
      unfold wp_X11_spread_80
      rw [e0]
      refine bf (by omega) ⟨n + 1, ?_⟩
      exact mid (fun v4_6 m_6 => wp_X11_spread_80 post (r + 1) v4_6 m_6) k (mA n k A) (by omega) (pA k (by omega)) (ih (k + 1) (by omega)) n 0 (by omega)
  exact ⟨n + 1, top n 0 (by omega)⟩
