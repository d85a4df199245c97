/-! a row of wagons: steps -/
theorem pw_r {t : Int} (ht : 2 ≤ t ∧ t ≤ 8) {s : Nat} (hs : s ≤ 4) : 1 ≤ t ^ s ∧ t ^ s ≤ 4096 ∧ (s = 4 → 16 ≤ t ^ s) := by
  rcases (show t = 2 ∨ t = 3 ∨ t = 4 ∨ t = 5 ∨ t = 6 ∨ t = 7 ∨ t = 8 by omega) with rfl | rfl | rfl | rfl | rfl | rfl | rfl <;>
    rcases (show s = 0 ∨ s = 1 ∨ s = 2 ∨ s = 3 ∨ s = 4 by omega) with rfl | rfl | rfl | rfl | rfl <;> decide
def StepsIs (G t : Int) (s : Nat) : Prop := s ≤ 4 ∧ G < t ^ s ∧ ∀ u : Nat, u < s → t ^ u ≤ G
theorem steps_u {G t : Int} {s s' : Nat} (h : StepsIs G t s) (h' : StepsIs G t s') : s = s' := by
  rcases Nat.lt_trichotomy s s' with q | q | q
  · have := h'.2.2 s q; have := h.2.1; omega
  · exact q
  · have := h.2.2 s' q; have := h'.2.1; omega
theorem sp_powC {G t : Int} (hG : 0 ≤ G ∧ G ≤ 15) (ht : 2 ≤ t ∧ t ≤ 8) {m : Mem} {post : Int → Mem → Prop} (H : ∀ s : Nat, StepsIs G t s → post s m) : ∃ n : Nat, wp_X7_stepsBy_37 post n t G 1 0 0 m := by
  have key : ∀ r s : Nat, s + r = 4 → (∀ u : Nat, u < s → t ^ u ≤ G) → wp_X7_stepsBy_37 post (r + 1) t G (t ^ s) s s m := by
    intro r
    induction r with
    | zero =>
      intro s hs hu
      have hp := pw_r ht (show s ≤ 4 by omega)
      have := hp.2.2 (by omega)
      unfold wp_X7_stepsBy_37
      exact bf (by omega) (bt (by omega) (H s ⟨by omega, by omega, hu⟩))
    | succ r ih =>
      intro s hs hu
      have hp := pw_r ht (show s + 1 ≤ 4 by omega)
      unfold wp_X7_stepsBy_37
      refine bf (by omega) ⟨fun h => H s ⟨by omega, h, hu⟩, fun h => eqm ?_⟩
      rw [show t ^ s * t = t ^ (s + 1) from (Int.pow_succ t s).symm, w32_i (x := t ^ (s + 1)) (by omega), i1 s (by omega)]
      refine ih (s + 1) (by omega) (fun u h2 => ?_)
      by_cases e : u = s
      · rw [e]; omega
      · exact hu u (by omega)
  have fin := key 4 0 (by omega) (fun u h => by omega)
  rw [Int.pow_zero] at fin
  exact ⟨5, fin⟩
theorem sp_powM {G t : Int} (hG : 0 ≤ G ∧ G ≤ 15) (ht : 2 ≤ t ∧ t ≤ 8) {m : Mem} {post : Int → Mem → Prop} (H : ∀ s : Nat, StepsIs G t s → post s m) : ∃ n : Nat, wp_X11_stepsBy_10 post n t G 0 1 m := by
  have key : ∀ r s : Nat, s + r = 4 → (∀ u : Nat, u < s → t ^ u ≤ G) → wp_X11_stepsBy_10 post (r + 1) t G s (t ^ s) m := by
    intro r
    induction r with
    | zero =>
      intro s hs hu
      have hp := pw_r ht (show s ≤ 4 by omega)
      have := hp.2.2 (by omega)
      unfold wp_X11_stepsBy_10
      exact bt (by omega) (H s ⟨by omega, by omega, hu⟩)
    | succ r ih =>
      intro s hs hu
      have hp := pw_r ht (show s + 1 ≤ 4 by omega)
      unfold wp_X11_stepsBy_10
      refine ⟨fun h => H s ⟨by omega, h, hu⟩, fun h => eqm ?_⟩
      rw [show t ^ s * t = t ^ (s + 1) from (Int.pow_succ t s).symm, w32_i (x := t ^ (s + 1)) (by omega), i1 s (by omega)]
      refine ih (s + 1) (by omega) (fun u h2 => ?_)
      by_cases e : u = s
      · rw [e]; omega
      · exact hu u (by omega)
  have fin := key 4 0 (by omega) (fun u h => by omega)
  rw [Int.pow_zero] at fin
  exact ⟨5, fin⟩
theorem num_x {k : Nat} {mk W A : Int → Int} (hS : Srt k mk W) (hA : ∀ l : Nat, l < k → A (W l) = num W l) (x : Nat) (hx : x < k) : 0 ≤ A x ∧ A x ≤ num W (k - 1) := by
  obtain ⟨l, l1, l2⟩ := hS.2.2 x hx
  rw [← l2, hA l l1]
  have h1 := num_r W l
  have h2 := num_m W l (k - 1 - l)
  rw [show l + (k - 1 - l) = k - 1 by omega] at h2
  omega
theorem sp_stepsC {k : Nat} (hk : k ≤ 16) {t : Int} (ht : 2 ≤ t ∧ t ≤ 8) {mk W : Int → Int} (hS : Srt k mk W) {m : Mem} (hA : ∀ l : Nat, l < k → m 38 (W l) = num W l) {post : Int → Mem → Prop} (h0 : m 37 0 = k) (H : ∀ s : Nat, StepsIs (num W (k - 1)) t s → post s m) : wp_X7_stepsBy t m post := by
  have hG := num_r W (k - 1)
  have key : ∀ (r i : Nat) (v : Int), i + r = k → 0 ≤ v → v ≤ num W (k - 1) → (∀ x : Nat, x < i → m 38 x ≤ v) → wp_X7_stepsBy_4 (fun v1_2 v2_2 v3_2 v4_2 v5_2 m_2 => ∃ n_4 : Nat, wp_X7_stepsBy_37 post n_4 v1_2 v2_2 v3_2 v4_2 v5_2 m_2) post (r + 1) t v i m := by
    intro r
    induction r with
    | zero =>
      intro i v hi v0 v1 hv
      have e : v = num W (k - 1) := by
        rcases Nat.eq_zero_or_pos k with z | z
        · subst z
          have : num W (0 - 1) = 0 := rfl
          omega
        · have w := hS.1 (k - 1) (by omega)
          have g := hv (W ((k - 1 : Nat) : Int)).toNat (by omega)
          rw [show (((W ((k - 1 : Nat) : Int)).toNat : Nat) : Int) = W ((k - 1 : Nat) : Int) by omega, hA (k - 1) (by omega)] at g
          omega
      unfold wp_X7_stepsBy_4
      rw [h0]
      refine bt (by omega) ?_
      rw [e]
      exact sp_powC (by omega) ht H
    | succ r ih =>
      intro i v hi v0 v1 hv
      have g := num_x hS hA i (by omega)
      unfold wp_X7_stepsBy_4
      rw [h0, i1 i (by omega)]
      refine bf (by omega) ⟨by omega, eqm ?_⟩
      by_cases q : v < m 38 i
      · rw [if_pos q]
        refine ih (i + 1) _ (by omega) (by omega) g.2 (fun x hx => ?_)
        by_cases e : x = i
        · rw [e]; omega
        · have := hv x (by omega); omega
      · rw [if_neg q]
        refine ih (i + 1) _ (by omega) v0 v1 (fun x hx => ?_)
        by_cases e : x = i
        · rw [e]; omega
        · exact hv x (by omega)
  exact ⟨k + 1, key k 0 0 (by omega) (by omega) (by omega) (fun x hx => by omega)⟩
theorem sp_stepsM {k : Nat} (hk : k ≤ 16) {t : Int} (ht : 2 ≤ t ∧ t ≤ 8) {mk W : Int → Int} (hS : Srt k mk W) (hm : MkR k mk) {m : Mem} {post : Int → Mem → Prop} (h0 : m 67 20 = k) (h80 : ∀ i : Nat, i < k → m 80 i = mk i) (H : ∀ (B : Int → Int) (s : Nat), (∀ l : Nat, l < k → B (W l) = num W l) → StepsIs (num W (k - 1)) t s → post s (mrow m 95 B)) : wp_X11_stepsBy t m post := by
  have hG := num_r W (k - 1)
  unfold wp_X11_stepsBy
  exact sp_numM hk hS hm h0 h80 (fun B hB => sp_powM (by omega) ht (fun s hs => H B s hB hs))
theorem op_steps {m : Mem} (hR : Rel m) (t : Int) : wp_X10_steps t m (fun r m1 => wp_X11_steps t m1 (fun r2 m2 => r = r2 ∧ Rel m2)) := by
  obtain ⟨k, hk, e1, e2, hm, h80⟩ := hR.row
  have fO : ¬ (2 ≤ t ∧ t ≤ 8) → wp_X11_steps t m (fun r2 m2 => -102 = r2 ∧ Rel m2) := fun q => by
    unfold wp_X11_steps
    exact sp_in (fun a b => absurd ⟨a, b⟩ q) (fun _ => n0 ⟨rfl, hR⟩)
  unfold wp_X10_steps
  refine ⟨fun q => fO (by omega), fun a => ⟨fun b => ⟨fun z => ?_, fun z => ?_⟩, fun q => fO (by omega)⟩⟩
  · refine sp_numC hk e1 (fun W A hW hA => sp_stepsC hk (by omega) hW (by rw [mrow_s]; exact hA) (by rw [row_f (by decide) (by decide)]; exact e1) (fun s hs => ?_))
    unfold wp_X11_steps
    refine sp_in (fun _ _ => n1 ?_) (fun q => absurd ⟨by omega, b⟩ q)
    rw [row_f (by decide) (by decide)]
    refine nt (by omega) (sp_stepsM hk (by omega) hW hm (by rw [row_f (by decide) (by decide)]; exact e2) (by rw [row_f (by decide) (by decide)]; exact h80) (fun B s' hB hs' => ⟨by rw [steps_u hs hs'], ?_⟩))
    refine hR.frame (fun c j hc => ?_)
    rw [mrow_ne (fun q => hc (by unfold Scr; omega)), row_f (fun q => hc (by unfold Scr; omega)) (fun q => hc (by unfold Scr; omega))]
  · show wp_X11_steps t m (fun r2 m2 => -103 = r2 ∧ Rel m2)
    unfold wp_X11_steps
    exact sp_in (fun _ _ => n1 (nf (by omega) ⟨rfl, hR⟩)) (fun q => absurd ⟨by omega, b⟩ q)
