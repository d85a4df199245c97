/-! yard, trainIs, close, wagon -/
def stG (at_ si : Int → Int) (clock y w i : Int) : Int := if at_ i = y ∧ (w = 0 ∨ si i ≤ clock) then 1 else 0
theorem sp_standingAt {y w : Int} {m : Mem} {post : Int → Mem → Prop} (hw : 0 ≤ m 28 4 ∧ m 28 4 ≤ 30) (h : post (accF (stG (m 31) (m 34) (m 28 0) y w) (m 28 4).toNat 0 0) m) : wp_X9_standingAt y w m post := by
  have key : ∀ (k : Nat) (i s : Int), 0 ≤ i → i + k = m 28 4 → r32 s → accF (stG (m 31) (m 34) (m 28 0) y w) k i s = accF (stG (m 31) (m 34) (m 28 0) y w) (m 28 4).toNat 0 0 → wp_X9_standingAt_5 post (k + 1) y w s i m := by
    intro k
    induction k with
    | zero => intro i s h0 hk hs he; unfold wp_X9_standingAt_5; refine bt (by omega) ?_; rw [← he] at h; exact h
    | succ k ih =>
      intro i s h0 hk hs he
      unfold wp_X9_standingAt_5
      refine bf (by omega) ⟨by omega, ?_⟩
      rw [w32_i (x := i + 1) (by omega)]
      rw [accF_s] at he
      unfold stG at he ih h
      by_cases c1 : m 31 i = y
      · refine nf c1 ?_
        by_cases c2 : w = 0
        · rw [if_pos ⟨c1, Or.inl c2⟩] at he
          exact bt c2 (ih (i + 1) _ (by omega) (by omega) (w32_r _) he)
        · refine bf c2 ⟨by omega, ?_⟩
          by_cases c3 : m 28 0 < m 34 i
          · rw [if_neg (fun q => by rcases q.2 with q | q <;> omega), w32_0 hs] at he
            exact bt c3 (ih (i + 1) _ (by omega) (by omega) hs he)
          · rw [if_pos ⟨c1, Or.inr (by omega)⟩] at he
            exact bf c3 (ih (i + 1) _ (by omega) (by omega) (w32_r _) he)
      · rw [if_neg (fun q => c1 q.1), w32_0 hs] at he
        exact nt c1 (ih (i + 1) _ (by omega) (by omega) hs he)
  exact ⟨_, key (m 28 4).toNat 0 0 (by omega) (by omega) r0 rfl⟩
theorem sp_yard28 {y w : Int} {m : Mem} {post : Int → Mem → Prop} (hw : 0 ≤ m 67 13 ∧ m 67 13 ≤ 30) (h : post (accF (stG (fun i => m 77 (6 * i)) (fun i => m 77 (6 * i + 2)) (m 67 18) y w) (m 67 13).toNat 0 0) m) : ∃ n : Nat, wp_X11_yard_28 post n y w 0 0 m := by
  have key : ∀ (k : Nat) (i s : Int), 0 ≤ i → i + k = m 67 13 → accF (stG (fun i => m 77 (6 * i)) (fun i => m 77 (6 * i + 2)) (m 67 18) y w) k i s = accF (stG (fun i => m 77 (6 * i)) (fun i => m 77 (6 * i + 2)) (m 67 18) y w) (m 67 13).toNat 0 0 → wp_X11_yard_28 post (k + 1) y w s i m := by
    intro k
    induction k with
    | zero => intro i s h0 hk he; unfold wp_X11_yard_28; refine bt (by omega) ?_; rw [← he] at h; exact h
    | succ k ih =>
      intro i s h0 hk he
      unfold wp_X11_yard_28
      rw [ix6' h0 (by omega) (by decide) (by decide), ix6 h0 (by omega)]
      refine bf (by omega) ⟨by omega, ?_⟩
      rw [w32_i (x := i + 1) (by omega)]
      rw [accF_s] at he
      unfold stG at he ih h
      by_cases c1 : m 77 (6 * i) = y
      · refine nf c1 ?_
        by_cases c2 : w = 0
        · simp only [if_pos (show m 77 (6 * i) = y ∧ (w = 0 ∨ m 77 (6 * i + 2) ≤ m 67 18) from ⟨c1, Or.inl c2⟩)] at he
          exact bt c2 (eqm (ih (i + 1) _ (by omega) (by omega) he))
        · refine bf c2 ⟨by omega, ?_⟩
          by_cases c3 : m 67 18 < m 77 (6 * i + 2)
          · simp only [if_neg (show ¬ (m 77 (6 * i) = y ∧ (w = 0 ∨ m 77 (6 * i + 2) ≤ m 67 18)) from fun q => by rcases q.2 with q | q <;> omega)] at he
            exact bt c3 (eqm (ih (i + 1) _ (by omega) (by omega) he))
          · simp only [if_pos (show m 77 (6 * i) = y ∧ (w = 0 ∨ m 77 (6 * i + 2) ≤ m 67 18) from ⟨c1, Or.inr (by omega)⟩)] at he
            exact bf c3 (eqm (ih (i + 1) _ (by omega) (by omega) he))
      · simp only [if_neg (show ¬ (m 77 (6 * i) = y ∧ (w = 0 ∨ m 77 (6 * i + 2) ≤ m 67 18)) from fun q => c1 q.1)] at he
        exact nt c1 (eqm (ih (i + 1) _ (by omega) (by omega) he))
  exact ⟨_, key (m 67 13).toNat 0 0 (by omega) (by omega) rfl⟩
theorem op_yard {m : Mem} (hR : Rel m) (y w : Int) : wp_X10_yard y w m (fun r m1 => wp_X11_yard y w m1 (fun r2 m2 => r = r2 ∧ Rel m2)) := by
  obtain ⟨n1', n2, n3⟩ := hR.n
  obtain ⟨h1, h2, h3, h4, h5, h6, h7, h8, h9, h10, h11⟩ := id hR
  obtain ⟨c1, c2, c3, c4, c5, c6, c7, c8, c9, c10, c11⟩ := h5
  have keyO : 0 ≤ y → y < m 1 0 → ¬ (0 ≤ w ∧ w ≤ 1) → wp_X11_yard y w m (fun r2 m2 => -102 = r2 ∧ Rel m2) := by
    intro a b q
    unfold wp_X11_yard
    exact sp_isYard (by omega) (fun _ _ => n1 (sp_in (fun x z => absurd ⟨x, z⟩ q) (fun _ => n0 ⟨rfl, hR⟩))) (fun q => absurd ⟨a, by omega⟩ q)
  have keyI : 0 ≤ y → y < m 1 0 → 0 ≤ w → w ≤ 1 → wp_X11_yard y w m (fun r2 m2 => accF (stG (m 31) (m 34) (m 28 0) y w) (m 28 4).toNat 0 0 = r2 ∧ Rel m2) := by
    intro a b c d
    unfold wp_X11_yard
    refine sp_isYard (by omega) (fun _ _ => n1 (sp_in (fun x z => n1 (sp_yard28 (by omega) ⟨?_, hR⟩)) (fun q => absurd ⟨c, d⟩ q))) (fun q => absurd ⟨a, by omega⟩ q)
    rw [c8, c1]
    refine accF_congr _ _ _ (fun j j1 j2 => ?_)
    obtain ⟨⟨d1, d2, d3, -⟩, -⟩ := c11 j j1 (by omega)
    unfold stG
    simp only [d1, d3]
  unfold wp_X10_yard
  refine sp_X3_has (fun a b => n1 ⟨fun q => keyO a b (by omega), fun q => ⟨fun q2 => ?_, fun q2 => keyO a b (by omega)⟩⟩) (fun q => n0 ?_)
  · by_cases e : w = 1
    · have := keyI a b (by omega) q2
      rw [e] at this ⊢
      exact nf rfl (sp_standingAt (by omega) this)
    · have := keyI a b (by omega) q2
      rw [show w = 0 by omega] at this ⊢
      exact nt (by decide) (sp_standingAt (by omega) this)
  · show wp_X11_yard y w m (fun r2 m2 => -101 = r2 ∧ Rel m2)
    unfold wp_X11_yard
    exact sp_isYard (by omega) (fun a b => absurd ⟨a, by omega⟩ q) (fun _ => n0 ⟨rfl, hR⟩)
/-! on the way -/
theorem sp_onTheWayM {t : Int} {m : Mem} {post : Int → Mem → Prop} (ht : 0 ≤ t ∧ t < 12) (h : post (4 - cnt4 (fun q => m 76 (4 * t + q)) (-1)) m) : wp_X11_onTheWay t m post := by
  refine ⟨5, ?_⟩
  have e : ∀ q : Int, 0 ≤ q → q < 4 → w32 (w32 (4 * t) + q) = 4 * t + q := fun q h1 h2 => ix4' ht.1 ht.2 h1 h2
  have step : ∀ (n : Nat) (v i : Int), 0 ≤ v → v ≤ 4 → 0 ≤ i → i < 4 → (∀ v' : Int, v' = v + (if m 76 (4 * t + i) = -1 then 0 else 1) → wp_X11_onTheWay_4 post n t v' (i + 1) m) → wp_X11_onTheWay_4 post (n + 1) t v i m := by
    intro n v i v0 v4 i0 i4 hn
    unfold wp_X11_onTheWay_4
    rw [e i i0 i4]
    refine bf (by omega) ⟨by omega, ?_⟩
    rw [w32_i (x := i + 1) (by omega), w32_i (x := v + 1) (by omega), w32_i (x := v + 0) (by omega)]
    by_cases c : m 76 (4 * t + i) = -1
    · rw [if_pos c] at hn; exact nf c (eqm (hn _ rfl))
    · rw [if_neg c] at hn; exact nt c (eqm (hn _ rfl))
  unfold cnt4 at h
  refine step 4 0 0 (by omega) (by omega) (by omega) (by omega) (fun v1 e1 => ?_)
  refine step 3 v1 (0 + 1) (by split at e1 <;> omega) (by split at e1 <;> omega) (by omega) (by omega) (fun v2 e2 => ?_)
  refine step 2 v2 (0 + 1 + 1) (by split at e1 <;> split at e2 <;> omega) (by split at e1 <;> split at e2 <;> omega) (by omega) (by omega) (fun v3 e3 => ?_)
  refine step 1 v3 (0 + 1 + 1 + 1) (by split at e1 <;> split at e2 <;> split at e3 <;> omega) (by split at e1 <;> split at e2 <;> split at e3 <;> omega) (by omega) (by omega) (fun v4 e4 => ?_)
  unfold wp_X11_onTheWay_4
  refine bt (by omega) ?_
  have e5 : v4 = 4 - ((if (fun q => m 76 (4 * t + q)) 0 = -1 then 1 else 0) + (if (fun q => m 76 (4 * t + q)) 1 = -1 then 1 else 0) + (if (fun q => m 76 (4 * t + q)) 2 = -1 then 1 else 0) + (if (fun q => m 76 (4 * t + q)) 3 = -1 then 1 else 0)) := by
    simp only [show (0 : Int) + 1 = 1 by omega, show (1 : Int) + 1 = 2 by omega, show (2 : Int) + 1 = 3 by omega] at e2 e3 e4
    rw [e4, e3, e2, e1]
    show (0 : Int) + (if m 76 (4 * t + 0) = -1 then 0 else 1) + (if m 76 (4 * t + 1) = -1 then 0 else 1) + (if m 76 (4 * t + 2) = -1 then 0 else 1) + (if m 76 (4 * t + 3) = -1 then 0 else 1) = 4 - ((if m 76 (4 * t + 0) = -1 then 1 else 0) + (if m 76 (4 * t + 1) = -1 then 1 else 0) + (if m 76 (4 * t + 2) = -1 then 1 else 0) + (if m 76 (4 * t + 3) = -1 then 1 else 0))
    split <;> split <;> split <;> split <;> omega
  rw [e5]
  exact h
theorem sp_onTheWayC {t clock : Int} {m : Mem} {post : Int → Mem → Prop} (ht : 0 ≤ t ∧ t < 12) (hl : -1000 ≤ m 25 t ∧ m 25 t ≤ 2000) (hb : -1000 ≤ m 26 t ∧ m 26 t ≤ 2000) (hk : 1 ≤ m 18 t ∧ m 18 t ≤ 48) (h : post ((if clock ≤ m 25 t + m 18 t then 1 else 0) + (if clock ≤ m 26 t + m 18 t then 1 else 0)) m) : wp_X8_onTheWay t clock m post := by
  unfold wp_X8_onTheWay wp_X8_onTheWay_22
  rw [w32_i (x := m 25 t + m 18 t) (by omega), w32_i (x := m 26 t + m 18 t) (by omega)]
  refine ⟨ht, ht, ?_⟩
  by_cases c1 : m 25 t + m 18 t < clock
  · refine bt c1 ⟨ht, ht, ?_⟩
    rw [if_neg (show ¬ clock ≤ m 25 t + m 18 t by omega)] at h
    by_cases c2 : m 26 t + m 18 t < clock
    · rw [if_neg (show ¬ clock ≤ m 26 t + m 18 t by omega)] at h
      exact bt c2 h
    · rw [if_pos (show clock ≤ m 26 t + m 18 t by omega)] at h
      exact bf c2 h
  · refine bf c1 ⟨ht, ht, ?_⟩
    rw [if_pos (show clock ≤ m 25 t + m 18 t by omega)] at h
    by_cases c2 : m 26 t + m 18 t < clock
    · rw [if_neg (show ¬ clock ≤ m 26 t + m 18 t by omega)] at h
      exact bt c2 h
    · rw [if_pos (show clock ≤ m 26 t + m 18 t by omega)] at h
      exact bf c2 h
theorem op_trainIs {m : Mem} (hR : Rel m) (t w : Int) : wp_X10_trainIs t w m (fun r m1 => wp_X11_trainIs t w m1 (fun r2 m2 => r = r2 ∧ Rel m2)) := by
  obtain ⟨h1, h2, h3, h4, h5, h6, h7, h8, h9, h10, h11⟩ := id hR
  obtain ⟨c1, c2, c3, c4, c5, c6, c7⟩ := h4
  obtain ⟨k1, k2, k3, -⟩ := h5
  have e0 : w32 (m 67 9 - 1) = m 67 9 - 1 := w32_i (by omega)
  have keyO : ¬ (0 ≤ w ∧ w ≤ 3) → 0 ≤ t → t < m 13 0 → wp_X11_trainIs t w m (fun r2 m2 => -102 = r2 ∧ Rel m2) := by
    intro q a c
    unfold wp_X11_trainIs
    rw [e0]
    exact sp_in (fun _ _ => n1 (sp_in (fun x y => by omega) (fun _ => z0 (nt (by omega) ⟨rfl, hR⟩)))) (fun q => absurd ⟨a, by omega⟩ q)
  have keyI : ∀ r : Int, 0 ≤ t → t < m 13 0 → r = m 75 (3 * t + w) → 0 ≤ w → w ≤ 2 → wp_X11_trainIs t w m (fun r2 m2 => r = r2 ∧ Rel m2) := by
    intro r a c q0 w0 w3
    unfold wp_X11_trainIs
    rw [e0, ix3' a (by omega) w0 (by omega)]
    exact sp_in (fun _ _ => n1 (sp_in (fun x y => z1 ⟨by omega, q0, hR⟩) (fun q => absurd ⟨w0, w3⟩ q))) (fun q => absurd ⟨a, by omega⟩ q)
  unfold wp_X10_trainIs wp_X8_tell
  refine sp_X8_has (fun a c => n1 ⟨fun q => keyO (by omega) a c, fun q => ⟨fun q2 => ?_, fun q2 => keyO (by omega) a c⟩⟩) (fun q => n0 ?_)
  · obtain ⟨-, -, -, ⟨p1, p2, p3, p4, p5, p6, p7, p8⟩, ⟨d1, d2, d3⟩, ⟨r1, r2, r3, r4, r5, r6⟩⟩ := c7 t a c
    refine ⟨fun e => ⟨by omega, keyI _ a c ?_ (by omega) (by omega)⟩, fun e => ⟨by omega, keyI _ a c ?_ (by omega) (by omega)⟩, fun e => ⟨by omega, keyI _ a c ?_ (by omega) (by omega)⟩, fun e => ?_⟩
    · rw [e, Int.add_zero, d1]
    · rw [e, d2]
    · rw [e, d3]
    · refine sp_onTheWayC (by omega) (by omega) (by omega) (by omega) ?_
      show wp_X11_trainIs t w m (fun r2 m2 => (if m 28 0 ≤ m 25 t + m 18 t then 1 else 0) + (if m 28 0 ≤ m 26 t + m 18 t then 1 else 0) = r2 ∧ Rel m2)
      unfold wp_X11_trainIs
      rw [e0]
      refine sp_in (fun _ _ => n1 (sp_in (fun x y => by omega) (fun _ => z0 (nf (by omega) (sp_onTheWayM (by omega) ⟨?_, hR⟩))))) (fun q => absurd ⟨a, by omega⟩ q)
      rw [r6]
      omega
  · show wp_X11_trainIs t w m (fun r2 m2 => -101 = r2 ∧ Rel m2)
    unfold wp_X11_trainIs
    rw [e0]
    exact sp_in (fun a c => absurd ⟨a, by omega⟩ q) (fun _ => n0 ⟨rfl, hR⟩)
