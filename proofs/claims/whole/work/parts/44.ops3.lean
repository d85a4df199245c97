/-! calls that tell, counts, a closed yard, a wagon -/
def accF (g : Int → Int) : Nat → Int → Int → Int
  | 0, _, s => s
  | k + 1, i, s => accF g k (i + 1) (w32 (s + g i))
theorem accF_congr {g g' : Int → Int} : ∀ (k : Nat) (i s : Int), (∀ j : Int, i ≤ j → j < i + k → g j = g' j) → accF g k i s = accF g' k i s
  | 0, _, _, _ => rfl
  | k + 1, i, s, h => by
    unfold accF
    rw [h i (by omega) (by omega)]
    exact accF_congr k (i + 1) _ (fun j h1 h2 => h j (by omega) (by omega))
theorem accF_s (g : Int → Int) (k : Nat) (i s : Int) : accF g (k + 1) i s = accF g k (i + 1) (w32 (s + g i)) := rfl
theorem w32_0 {s : Int} (h : r32 s) : w32 (s + 0) = s := by unfold r32 at h; unfold w32; omega
theorem sp_doneMany {m : Mem} {post : Int → Mem → Prop} (hw : 0 ≤ m 28 4 ∧ m 28 4 ≤ 30) (h : post (accF (m 36) (m 28 4).toNat 0 0) m) : wp_X9_doneMany m post := by
  have key : ∀ (k : Nat) (i s : Int), 0 ≤ i → i + k = m 28 4 → accF (m 36) k i s = accF (m 36) (m 28 4).toNat 0 0 → wp_X9_doneMany_4 post (k + 1) s i m := by
    intro k
    induction k with
    | zero => intro i s h0 hk he; unfold wp_X9_doneMany_4; refine bt (by omega) ?_; rw [← he] at h; exact h
    | succ k ih =>
      intro i s h0 hk he
      unfold wp_X9_doneMany_4
      refine bf (by omega) ⟨by omega, eqm ?_⟩
      rw [w32_i (x := i + 1) (by omega)]
      exact ih (i + 1) _ (by omega) (by omega) he
  exact ⟨_, key (m 28 4).toNat 0 0 (by omega) (by omega) rfl⟩
theorem sp_done {m : Mem} {post : Int → Mem → Prop} (hw : 0 ≤ m 67 13 ∧ m 67 13 ≤ 30) (h : post (accF (fun i => m 77 (6 * i + 4)) (m 67 13).toNat 0 0) m) : wp_X11_done m post := by
  have key : ∀ (k : Nat) (i s : Int), 0 ≤ i → i + k = m 67 13 → accF (fun i => m 77 (6 * i + 4)) k i s = accF (fun i => m 77 (6 * i + 4)) (m 67 13).toNat 0 0 → wp_X11_done_4 post (k + 1) s i m := by
    intro k
    induction k with
    | zero => intro i s h0 hk he; unfold wp_X11_done_4; refine bt (by omega) ?_; rw [← he] at h; exact h
    | succ k ih =>
      intro i s h0 hk he
      unfold wp_X11_done_4
      rw [ix6' h0 (by omega) (by decide) (by decide)]
      refine bf (by omega) ⟨by omega, eqm ?_⟩
      rw [w32_i (x := i + 1) (by omega)]
      exact ih (i + 1) _ (by omega) (by omega) he
  exact ⟨_, key (m 67 13).toNat 0 0 (by omega) (by omega) rfl⟩
theorem sp_runningMany {m : Mem} {post : Int → Mem → Prop} (hw : 0 ≤ m 28 4 ∧ m 28 4 ≤ 30) (h : post (accF (fun i => if m 33 i = -1 then 0 else 1) (m 28 4).toNat 0 0) m) : wp_X9_runningMany m post := by
  have key : ∀ (k : Nat) (i s : Int), 0 ≤ i → i + k = m 28 4 → accF (fun i => if m 33 i = -1 then 0 else 1) k i s = accF (fun i => if m 33 i = -1 then 0 else 1) (m 28 4).toNat 0 0 → wp_X9_runningMany_4 post (k + 1) s i m := by
    intro k
    induction k with
    | zero => intro i s h0 hk he; unfold wp_X9_runningMany_4; refine bt (by omega) ?_; rw [← he] at h; exact h
    | succ k ih =>
      intro i s h0 hk he
      unfold wp_X9_runningMany_4
      refine bf (by omega) ⟨by omega, ?_⟩
      rw [w32_i (x := i + 1) (by omega)]
      rw [accF_s] at he
      by_cases hc : m 33 i = -1
      · simp only [if_pos hc] at he
        exact bt hc (eqm (ih (i + 1) _ (by omega) (by omega) he))
      · simp only [if_neg hc] at he
        exact bf hc (eqm (ih (i + 1) _ (by omega) (by omega) he))
  exact ⟨_, key (m 28 4).toNat 0 0 (by omega) (by omega) rfl⟩
theorem sp_running {m : Mem} {post : Int → Mem → Prop} (hw : 0 ≤ m 67 13 ∧ m 67 13 ≤ 30) (h : post (accF (fun i => if m 77 (6 * i + 1) = -1 then 0 else 1) (m 67 13).toNat 0 0) m) : wp_X11_running m post := by
  have key : ∀ (k : Nat) (i s : Int), 0 ≤ i → i + k = m 67 13 → accF (fun i => if m 77 (6 * i + 1) = -1 then 0 else 1) k i s = accF (fun i => if m 77 (6 * i + 1) = -1 then 0 else 1) (m 67 13).toNat 0 0 → wp_X11_running_4 post (k + 1) s i m := by
    intro k
    induction k with
    | zero => intro i s h0 hk he; unfold wp_X11_running_4; refine bt (by omega) ?_; rw [← he] at h; exact h
    | succ k ih =>
      intro i s h0 hk he
      unfold wp_X11_running_4
      rw [ix6' h0 (by omega) (by decide) (by decide)]
      refine bf (by omega) ⟨by omega, ?_⟩
      rw [w32_i (x := i + 1) (by omega)]
      rw [accF_s] at he
      by_cases hc : m 77 (6 * i + 1) = -1
      · simp only [if_pos hc] at he
        exact nf hc (eqm (ih (i + 1) _ (by omega) (by omega) he))
      · simp only [if_neg hc] at he
        exact nt hc (eqm (ih (i + 1) _ (by omega) (by omega) he))
  exact ⟨_, key (m 67 13).toNat 0 0 (by omega) (by omega) rfl⟩
theorem op_count {m : Mem} (hR : Rel m) (w : Int) : wp_X10_count w m (fun r m1 => wp_X11_count w m1 (fun r2 m2 => r = r2 ∧ Rel m2)) := by
  obtain ⟨h1, h2, h3, h4, h5, h6, h7, h8, h9, h10, h11⟩ := id hR
  obtain ⟨c1, c2, c3, c4, c5, c6, c7, c8, c9, c10, c11⟩ := h5
  have key : ∀ r : Int, ((w = 0 → r = m 1 0) ∧ (w = 1 → r = m 6 0) ∧ (w = 2 → r = m 13 0) ∧ (w = 3 → r = m 28 4) ∧ (w = 4 → r = m 28 0) ∧ (w = 5 → r = accF (m 36) (m 28 4).toNat 0 0) ∧ (w = 6 → r = accF (fun i => if m 33 i = -1 then 0 else 1) (m 28 4).toNat 0 0) ∧ (w = 7 → r = m 37 0) ∧ (w = 8 → r = m 59 0) ∧ (w = 9 → r = m 4 0) ∧ (w = 10 → r = m 63 0) ∧ (w < 0 ∨ 10 < w → r = -102)) → wp_X11_count w m (fun r2 m2 => r = r2 ∧ Rel m2) := by
    intro r ⟨q0, q1, q2, q3, q4, q5, q6, q7, q8, q9, q10, q11⟩
    unfold wp_X11_count
    refine ⟨fun e => ⟨(q0 e).trans h1.1.symm, hR⟩, fun e => ⟨(q1 e).trans h3.1.symm, hR⟩, fun e => ⟨(q2 e).trans h4.1.symm, hR⟩, fun e => ⟨(q3 e).trans c8.symm, hR⟩, fun e => ⟨(q4 e).trans c1.symm, hR⟩, fun e => sp_done (by omega) ⟨?_, hR⟩, fun e => sp_running (by omega) ⟨?_, hR⟩, fun e => ⟨(q7 e).trans h6.1.symm, hR⟩, fun e => ⟨(q8 e).trans h10.1.symm, hR⟩, fun e => ⟨(q9 e).trans h2.1.symm, hR⟩, fun e => ⟨(q10 e).trans h11.1.symm, hR⟩, fun e => ⟨q11 e, hR⟩⟩
    · rw [q5 e, c8]
      exact accF_congr _ _ _ (fun j j1 j2 => ((c11 j j1 (by omega)).1.2.2.2.2.1).symm)
    · rw [q6 e, c8]
      refine accF_congr _ _ _ (fun j j1 j2 => ?_)
      show (if m 33 j = -1 then (0 : Int) else 1) = if m 77 (6 * j + 1) = -1 then 0 else 1
      rw [(c11 j j1 (by omega)).1.2.1]
  unfold wp_X10_count
  refine ⟨fun e => key _ ?_, fun e => key _ ?_, fun e => key _ ?_, fun e => key _ ?_, fun e => key _ ?_, fun e => sp_doneMany (by omega) (key _ ?_), fun e => sp_runningMany (by omega) (key _ ?_), fun e => key _ ?_, fun e => key _ ?_, fun e => key _ ?_, fun e => key _ ?_, fun e => key _ ?_⟩ <;>
  refine ⟨fun z => ?_, fun z => ?_, fun z => ?_, fun z => ?_, fun z => ?_, fun z => ?_, fun z => ?_, fun z => ?_, fun z => ?_, fun z => ?_, fun z => ?_, fun z => ?_⟩ <;> first | rfl | omega
theorem op_about {m : Mem} (hR : Rel m) (b w : Int) : wp_X10_about b w m (fun r m1 => wp_X11_about b w m1 (fun r2 m2 => r = r2 ∧ Rel m2)) := by
  obtain ⟨h1, h2, h3, h4, h5, h6, h7, h8, h9, h10, h11⟩ := id hR
  obtain ⟨c1, c2, c3, c4, c5⟩ := h3
  unfold wp_X10_about wp_X0_tell
  have keyO : ¬ (0 ≤ w ∧ w ≤ 3) → 0 ≤ b → b < m 6 0 → wp_X11_about b w m (fun r2 m2 => -102 = r2 ∧ Rel m2) := by
    intro q a c
    unfold wp_X11_about
    exact sp_isBlock (by omega) (fun _ _ => n1 (nt (by omega) (nt (by omega) (nt (by omega) (nt (by omega) ⟨rfl, hR⟩))))) (fun q => absurd ⟨a, by omega⟩ q)
  have keyI : ∀ r : Int, 0 ≤ b → b < m 6 0 → (w = 0 → r = m 7 b) → (w = 1 → r = m 8 b) → (w = 2 → r = m 9 b) → (w = 3 → r = m 10 b) → 0 ≤ w → w ≤ 3 → wp_X11_about b w m (fun r2 m2 => r = r2 ∧ Rel m2) := by
    intro r a c q0 q1 q2 q3 w0 w3
    obtain ⟨⟨e1, e2, e3, e4⟩, -⟩ := c4 b a c
    unfold wp_X11_about
    refine sp_isBlock (by omega) (fun _ _ => n1 ⟨fun x0 => ⟨fun x1 => ⟨fun x2 => ⟨fun x3 => by omega, fun x3 => ⟨by omega, by rw [q3 x3, e4], hR⟩⟩, fun x2 => ⟨by omega, by rw [q2 x2, e3], hR⟩⟩, fun x1 => ⟨by omega, by rw [q1 x1, e2], hR⟩⟩, fun x0 => ⟨by omega, by rw [q0 x0, e1], hR⟩⟩) (fun q => absurd ⟨a, by omega⟩ q)
  refine sp_X0_has (fun a c => n1 ⟨fun q => keyO (by omega) a c, fun q => ⟨fun q2 => ⟨fun e => ⟨by omega, ?_⟩, fun e => ⟨by omega, ?_⟩, fun e => ⟨by omega, ?_⟩, fun e => ⟨by omega, ?_⟩⟩, fun q2 => keyO (by omega) a c⟩⟩) (fun q => n0 ?_)
  · exact keyI _ a c (fun _ => rfl) (fun _ => by omega) (fun _ => by omega) (fun _ => by omega) (by omega) q2
  · exact keyI _ a c (fun _ => by omega) (fun _ => rfl) (fun _ => by omega) (fun _ => by omega) (by omega) q2
  · exact keyI _ a c (fun _ => by omega) (fun _ => by omega) (fun _ => rfl) (fun _ => by omega) (by omega) q2
  · exact keyI _ a c (fun _ => by omega) (fun _ => by omega) (fun _ => by omega) (fun _ => rfl) (by omega) q2
  · unfold wp_X11_about
    exact sp_isBlock (by omega) (fun a c => absurd ⟨a, by omega⟩ q) (fun _ => n0 ⟨rfl, hR⟩)
theorem op_wagonIs {m : Mem} (hR : Rel m) (i w : Int) : wp_X10_wagonIs i w m (fun r m1 => wp_X11_wagonIs i w m1 (fun r2 m2 => r = r2 ∧ Rel m2)) := by
  obtain ⟨h1, h2, h3, h4, h5, h6, h7, h8, h9, h10, h11⟩ := id hR
  obtain ⟨c1, c2, c3, c4, c5, c6, c7, c8, c9, c10, c11⟩ := h5
  unfold wp_X10_wagonIs wp_X9_tell
  have e0 : w32 (m 67 13 - 1) = m 67 13 - 1 := w32_i (by omega)
  have keyO : ¬ (0 ≤ w ∧ w ≤ 5) → 0 ≤ i → i < m 28 4 → wp_X11_wagonIs i w m (fun r2 m2 => -102 = r2 ∧ Rel m2) := by
    intro q a c
    unfold wp_X11_wagonIs
    rw [e0]
    exact sp_in (fun _ _ => n1 (sp_in (fun x y => absurd ⟨x, y⟩ q) (fun _ => z0 ⟨rfl, hR⟩))) (fun q => absurd ⟨a, by omega⟩ q)
  have keyI : ∀ r : Int, 0 ≤ i → i < m 28 4 → r = m 77 (6 * i + w) → 0 ≤ w → w ≤ 5 → wp_X11_wagonIs i w m (fun r2 m2 => r = r2 ∧ Rel m2) := by
    intro r a c q0 w0 w3
    unfold wp_X11_wagonIs
    rw [e0, ix6' a (by omega) w0 (by omega)]
    exact sp_in (fun _ _ => n1 (sp_in (fun x y => z1 ⟨by omega, q0, hR⟩) (fun q => absurd ⟨w0, w3⟩ q))) (fun q => absurd ⟨a, by omega⟩ q)
  refine sp_X9_has (fun a c => n1 ⟨fun q => keyO (by omega) a c, fun q => ⟨fun q2 => ?_, fun q2 => keyO (by omega) a c⟩⟩) (fun q => n0 ?_)
  · obtain ⟨⟨d1, d2, d3, d4, d5, d6⟩, -⟩ := c11 i a c
    refine ⟨fun e => ⟨by omega, keyI _ a c ?_ (by omega) q2⟩, fun e => ⟨by omega, keyI _ a c ?_ (by omega) q2⟩, fun e => ⟨by omega, keyI _ a c ?_ (by omega) q2⟩, fun e => ⟨by omega, keyI _ a c ?_ (by omega) q2⟩, fun e => ⟨by omega, keyI _ a c ?_ (by omega) q2⟩, fun e => ⟨by omega, keyI _ a c ?_ (by omega) q2⟩⟩
    · rw [e, Int.add_zero, d1]
    · rw [e, d2]
    · rw [e, d3]
    · rw [e, d4]
    · rw [e, d5]
    · rw [show w = 5 by omega, d6]
  · show wp_X11_wagonIs i w m (fun r2 m2 => -101 = r2 ∧ Rel m2)
    unfold wp_X11_wagonIs
    rw [e0]
    exact sp_in (fun a c => absurd ⟨a, by omega⟩ q) (fun _ => n0 ⟨rfl, hR⟩)
/-! which block -/
theorem pick_r (fr tk rk : Int → Int) (a d : Int) : ∀ k : Nat, pick fr tk rk a d k = -1 ∨ (0 ≤ pick fr tk rk a d k ∧ pick fr tk rk a d k < k)
  | 0 => Or.inl rfl
  | k + 1 => by
    unfold pick
    split
    · exact Or.inr (by omega)
    · rcases pick_r fr tk rk a d k with h | h
      · exact Or.inl h
      · exact Or.inr (by omega)
theorem sp_goesOf {a d : Int} {m : Mem} {post : Int → Mem → Prop} (hw : 0 ≤ m 67 4 ∧ m 67 4 ≤ 20) (h : post (pick (m 70) (m 72) (m 73) a d (m 67 4).toNat) m) : wp_X11_goesOf a d m post := by
  have key : ∀ (k i : Nat), (i : Int) + k = m 67 4 → wp_X11_goesOf_5 post (k + 1) a d (pick (m 70) (m 72) (m 73) a d i) i m := by
    intro k
    induction k with
    | zero =>
      intro i hk
      unfold wp_X11_goesOf_5
      refine bt (by omega) ?_
      rw [show i = (m 67 4).toNat by omega]
      exact h
    | succ k ih =>
      intro i hk
      have hn := ih (i + 1) (by omega)
      have e1 : w32 ((i : Int) + 1) = ((i + 1 : Nat) : Int) := by rw [w32_i (by omega)]; omega
      unfold wp_X11_goesOf_5
      rw [e1]
      refine bf (by omega) ⟨by omega, ?_⟩
      unfold pick at hn
      unfold bit at hn
      by_cases c1 : m 70 i = a
      · refine nf c1 ⟨by omega, ?_⟩
        by_cases c2 : and32 (shr32 (m 72 i) d) 1 = 1
        · refine nf c2 ?_
          rcases pick_r (m 70) (m 72) (m 73) a d i with c3 | c3
          · rw [if_pos ⟨c1, c2, Or.inl c3⟩] at hn
            exact bt c3 hn
          · refine bf (by omega) ⟨by omega, by omega, ?_⟩
            by_cases c4 : m 73 i ≤ m 73 (pick (m 70) (m 72) (m 73) a d i)
            · rw [if_neg (fun q => by rcases q.2.2 with q | q <;> omega)] at hn
              exact bt c4 hn
            · rw [if_pos ⟨c1, c2, Or.inr (by omega)⟩] at hn
              exact bf c4 hn
        · rw [if_neg (fun q => c2 q.2.1)] at hn
          exact nt c2 hn
      · rw [if_neg (fun q => c1 q.1)] at hn
        exact nt c1 hn
  exact ⟨_, key (m 67 4).toNat 0 (by omega)⟩
theorem op_goes {m : Mem} (hR : Rel m) (a d : Int) : wp_X10_goes a d m (fun r m1 => wp_X11_goes a d m1 (fun r2 m2 => r = r2 ∧ Rel m2)) := by
  obtain ⟨n1', n2, n3⟩ := hR.n
  obtain ⟨h1, h2, h3, h4, h5, h6, h7, h8, h9, h10, h11⟩ := id hR
  obtain ⟨c1, c2, c3, c4, c5⟩ := h3
  have keyU : ¬ (0 ≤ a ∧ a < m 67 0 ∧ 0 ≤ d ∧ d < m 67 0) → wp_X11_goes a d m (fun r2 m2 => -101 = r2 ∧ Rel m2) := by
    intro q
    unfold wp_X11_goes
    exact sp_isYard (by omega) (fun x y => z1 (sp_isYard (by omega) (fun z w => absurd ⟨x, y, z, w⟩ q) (fun _ => z0 ⟨rfl, hR⟩))) (fun _ => z0 ⟨rfl, hR⟩)
  unfold wp_X10_goes
  refine sp_X3_has (fun x y => z1 (sp_X3_has (fun z w => n1 ?_) (fun q => n0 (keyU (by omega))))) (fun q => z0 (keyU (by omega)))
  rw [ix8 x (by omega) z (by omega)]
  refine ⟨by omega, ?_⟩
  unfold wp_X11_goes
  refine sp_isYard (by omega) (fun _ _ => z1 (sp_isYard (by omega) (fun _ _ => z1 (sp_goesOf (by omega) ⟨?_, hR⟩)) (fun q => absurd ⟨z, by omega⟩ q))) (fun q => absurd ⟨x, by omega⟩ q)
  rw [c5 a d x (by omega) z (by omega), c1]
