/-! a row of wagons: the reference's numbers; number -/
def lst (W : Int → Int) : Nat → Int
  | 0 => -1
  | j + 1 => W (j : Int)
def NInv (k : Nat) (mk W A : Int → Int) (b : Int) (j : Nat) : Prop := j ≤ k ∧ (∀ l : Nat, l < j → A (W l) = num W l) ∧ (∀ l : Nat, l < j → key mk (W l) < b) ∧ ∀ l : Nat, j ≤ l → l < k → b ≤ key mk (W l)
theorem sp_numM {k : Nat} (hk : k ≤ 16) {mk W : Int → Int} (hS : Srt k mk W) (hm : MkR k mk) {m : Mem} {post : Int → Mem → Prop} (h0 : m 67 20 = k) (h80 : ∀ i : Nat, i < k → m 80 i = mk i) (H : ∀ A : Int → Int, (∀ l : Nat, l < k → A (W l) = num W l) → post (num W (k - 1)) (mrow m 95 A)) : wp_X11_numberAll m post := by
  have inner : ∀ (K6 : Int → Int → Int → Mem → Prop) (u : Nat), u < 16 → (∀ (j : Nat) (A : Int → Int), NInv k mk W A (16 * u + k) j → K6 (lst W j) (num W (j - 1)) ((u + 1 : Nat) : Int) (mrow m 95 A)) → ∀ (r i j : Nat) (A : Int → Int), i + r = k → NInv k mk W A (16 * u + i) j → wp_X11_numberAll_15 K6 post (r + 1) (lst W j) (num W (j - 1)) u i (mrow m 95 A) := by
    intro K6 u hu hK r
    induction r with
    | zero =>
      intro i j A hi hI
      unfold wp_X11_numberAll_15
      rw [mrow_ne (by decide), h0, i1 u (by omega)]
      refine bt (by omega) (hK j A ?_)
      rw [show i = k by omega] at hI
      exact hI
    | succ r ih =>
      intro i j A hi hI
      obtain ⟨n1, n2, n3, n4⟩ := hI
      unfold wp_X11_numberAll_15
      rw [mrow_ne (by decide), h0, mrow_ne (by decide), h80 i (by omega), i1 i (by omega)]
      refine bf (by omega) ⟨by omega, fun z => ?_, fun z => ?_⟩
      · refine ih (i + 1) j A (by omega) ⟨n1, n2, fun l hl => ?_, fun l l1 l2 => ?_⟩
        · have := n3 l hl; omega
        · have g := n4 l l1 l2
          have w := hS.1 l l2
          by_cases e : W l = i
          · unfold key at g ⊢
            rw [e] at g ⊢
            omega
          · unfold key at g ⊢
            omega
      · obtain ⟨l, l1, l2⟩ := hS.2.2 i (by omega)
        have hkey : key mk (W l) = 16 * u + i := by unfold key; rw [l2, z]
        have hlj : l = j := by
          rcases Nat.lt_trichotomy l j with q | q | q
          · have := n3 l q; omega
          · exact q
          · have g1 := hS.2.1 j l q l1
            have g2 := n4 j (by omega) (by omega)
            omega
        subst hlj
        have nx : ∀ x : Int, x = num W l → wp_X11_numberAll_15 K6 post (r + 1) (i : Int) x u ((i + 1 : Nat) : Int) (mset (mrow m 95 A) 95 i x) := by
          intro x hx
          rw [hx, mrow_set]
          have := ih (i + 1) (l + 1) (rset A i (num W l)) (by omega) ⟨by omega, fun p hp => ?_, fun p hp => ?_, fun p p1 p2 => ?_⟩
          · show wp_X11_numberAll_15 K6 post (r + 1) _ _ _ _ _
            have e : lst W (l + 1) = (i : Int) := l2
            rw [e] at this
            exact this
          · by_cases e : p = l
            · rw [e, rset_eq l2]
            · rw [rset_ne (fun q => e (srt_inj hS (by omega) (by omega) (by rw [q, l2])))]; exact n2 p (by omega)
          · by_cases e : p = l
            · rw [e, hkey]; omega
            · have := n3 p (by omega); omega
          · have := hS.2.1 l p (by omega) p2
            omega
        have hn := num_r W (l - 1)
        unfold wp_X11_numberAll_47
        rw [i1 i (by omega)]
        refine ⟨fun q => eqm ⟨by omega, eqm ?_⟩, fun q => eqm ⟨by omega, eqm ?_⟩⟩
        · refine nx _ ?_
          rcases Nat.eq_zero_or_pos l with e | e
          · subst e; show w32 (num W 0 + 0) = num W 0; rw [w32_i (by have := num_r W 0; omega)]; omega
          · obtain ⟨p, rfl⟩ : ∃ p : Nat, l = p + 1 := ⟨l - 1, by omega⟩
            have q' : W (p : Int) ≤ W ((p + 1 : Nat) : Int) := by rw [l2]; exact q
            show w32 (num W p + 0) = num W (p + 1)
            have := num_r W p
            rw [w32_i (by omega), num, if_neg (by omega)]
            omega
        · refine nx _ ?_
          rcases Nat.eq_zero_or_pos l with e | e
          · subst e; exact absurd (show (-1 : Int) ≤ i by omega) q
          · obtain ⟨p, rfl⟩ : ∃ p : Nat, l = p + 1 := ⟨l - 1, by omega⟩
            have q' : ¬ W (p : Int) ≤ W ((p + 1 : Nat) : Int) := by rw [l2]; exact q
            show w32 (num W p + 1) = num W (p + 1)
            have := num_r W p
            rw [w32_i (by omega), num, if_pos (by omega)]
  have outer : ∀ (r u j : Nat) (A : Int → Int), u + r = 16 → NInv k mk W A (16 * u) j → wp_X11_numberAll_6 post (r + 1) (lst W j) (num W (j - 1)) u (mrow m 95 A) := by
    intro r
    induction r with
    | zero =>
      intro u j A hu hI
      obtain ⟨n1, n2, n3, n4⟩ := hI
      have : j = k := by
        rcases Nat.lt_or_ge j k with q | q
        · have g := n4 j (by omega) q
          have w := hS.1 j q
          have w2 := hm (W j) w.1 w.2
          unfold key at g
          omega
        · omega
      subst this
      unfold wp_X11_numberAll_6
      exact bt (by omega) (H A n2)
    | succ r ih =>
      intro u j A hu hI
      unfold wp_X11_numberAll_6
      refine bf (by omega) ⟨k + 1, ?_⟩
      refine inner _ u (by omega) (fun j' A' hI' => ?_) k 0 j A (by omega) (by rw [show (16 * (u : Int) + ((0 : Nat) : Int)) = 16 * u by omega]; exact hI)
      refine ih (u + 1) j' A' (by omega) ⟨hI'.1, hI'.2.1, fun l hl => ?_, fun l l1 l2 => ?_⟩
      · have := hI'.2.2.1 l hl; omega
      · have g := hI'.2.2.2 l l1 l2
        have w := hS.1 l l2
        unfold key at g ⊢
        omega
  have := outer 16 0 0 (m 95) (by omega) ⟨by omega, fun l hl => by omega, fun l hl => by omega, fun l _ l2 => by
    have w := hS.1 l l2
    have w2 := hm (W l) w.1 w.2
    unfold key
    omega⟩
  rw [mrow_self] at this
  exact ⟨17, this⟩
theorem Rel.row {m : Mem} (hR : Rel m) : ∃ k : Nat, k ≤ 16 ∧ m 37 0 = k ∧ m 67 20 = k ∧ MkR k (m 40) ∧ ∀ i : Nat, i < k → m 80 i = m 40 i := by
  obtain ⟨e, k1, k2, k3⟩ := hR.2.2.2.2.2.1
  refine ⟨(m 37 0).toNat, by omega, by omega, by omega, fun i i1 i2 => (k3 i i1 (by omega)).2, fun i hi => (k3 i (by omega) (by omega)).1⟩
theorem row_f {m : Mem} {W A : Int → Int} {c : Int} (h1 : ¬ c = 41) (h2 : ¬ c = 38) : mrow (mrow m 41 W) 38 A c = m c := by rw [mrow_ne h2, mrow_ne h1]
theorem op_number {m : Mem} (hR : Rel m) (i : Int) : wp_X10_number i m (fun r m1 => wp_X11_number i m1 (fun r2 m2 => r = r2 ∧ Rel m2)) := by
  obtain ⟨k, hk, e1, e2, hm, h80⟩ := hR.row
  have e0 : w32 (m 67 20 - 1) = m 67 20 - 1 := w32_i (by omega)
  unfold wp_X10_number
  refine sp_X7_has (fun a b => n1 (sp_numC hk e1 (fun W A hW hA => ⟨by omega, ?_⟩))) (fun q => n0 ?_)
  · show wp_X11_number i (mrow (mrow m 41 W) 38 A) (fun r2 m2 => mrow (mrow m 41 W) 38 A 38 i = r2 ∧ Rel m2)
    unfold wp_X11_number
    rw [row_f (c := 67) (by decide) (by decide), e0]
    refine sp_in (fun _ _ => n1 ?_) (fun q => absurd ⟨a, by omega⟩ q)
    refine sp_numM hk hW hm (by rw [row_f (by decide) (by decide)]; exact e2) (by rw [row_f (by decide) (by decide)]; exact h80) (fun B hB => ⟨by omega, ?_, ?_⟩)
    · rw [mrow_s, mrow_s]
      obtain ⟨l, l1, l2⟩ := hW.2.2 i.toNat (by omega)
      have e : i = W l := by rw [l2]; omega
      rw [e, hA l l1, hB l l1]
    · refine hR.frame (fun c j hc => ?_)
      rw [mrow_ne (fun q => hc (by unfold Scr; omega)), row_f (fun q => hc (by unfold Scr; omega)) (fun q => hc (by unfold Scr; omega))]
  · show wp_X11_number i m (fun r2 m2 => -101 = r2 ∧ Rel m2)
    unfold wp_X11_number
    rw [e0]
    exact sp_in (fun a b => absurd ⟨a, by omega⟩ q) (fun _ => n0 ⟨rfl, hR⟩)
