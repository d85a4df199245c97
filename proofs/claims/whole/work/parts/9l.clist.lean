/-! crews: the counts by trains are those of the list -/
theorem cS_list {dy hr w : Nat → Int} {o : Nat → Nat} {K : Nat} (hK : K ≤ 12) {r : Mem} (hT : Tab dy hr r K 0) {N : Nat} (hN : (N : Int) = sumg (fun t => pd (dy t) 7) K) (y : Nat) (h : Int) : cS (fun k => o (r 89 k).toNat) (fun k => r 90 k + w (r 89 k).toNat) N y h = cD dy hr w o K y h := by
  have inner : ∀ t : Nat, t < K → ∀ a : Int, ∀ k0 : Nat, (k0 : Int) = idx dy t 0 → (cB (fun k => decide (r 90 k + w (r 89 k).toNat < h) && decide (o (r 89 k).toNat = y)) k0 : Int) = a → ∀ d : Nat, d ≤ 7 → ∀ k1 : Nat, (k1 : Int) = idx dy t d → (cB (fun k => decide (r 90 k + w (r 89 k).toNat < h) && decide (o (r 89 k).toNat = y)) k1 : Int) = a + pq (dy t) (fun d => decide (24 * (d : Int) + (hr t + w t) < h) && decide (o t = y)) d := by
    intro t ht a k0 hk0 ha d
    induction d with
    | zero =>
      intro _ k1 hk1
      have : k1 = k0 := by omega
      rw [this, ha]
      show a = a + 0
      omega
    | succ d ih =>
      intro hd k1 hk1
      have hb := idx_b (dy := dy) (d := d) hK ht (by omega)
      have hk : ((idx dy t d).toNat : Int) = idx dy t d := Int.toNat_of_nonneg hb.1
      have h1 := ih (by omega) (idx dy t d).toNat hk
      have e1 : idx dy t (d + 1) = idx dy t d + bit (dy t) d := by unfold idx; rw [pd]; omega
      rcases bit_01 (dy t) d with q | q
      · rw [q] at e1
        have : k1 = (idx dy t d).toNat := by omega
        rw [this, h1, pq, if_neg (fun z => by rw [q] at z; exact absurd z.1 (by decide)), Int.add_zero]
      · rw [q] at e1
        have : k1 = (idx dy t d).toNat + 1 := by omega
        obtain ⟨t1, t2⟩ := hT t d (Or.inl ht) (by omega) q
        rw [this, cB, pq, ← Int.add_assoc, ← h1]
        show ((cB _ _ + (if (decide (r 90 ((idx dy t d).toNat : Int) + w (r 89 ((idx dy t d).toNat : Int)).toNat < h) && decide (o (r 89 ((idx dy t d).toNat : Int)).toNat = y)) = true then 1 else 0) : Nat) : Int) = _ + (if bit (dy t) d = 1 ∧ (decide (24 * (d : Int) + (hr t + w t) < h) && decide (o t = y)) = true then 1 else 0)
        rw [hk, t1, t2, Int.toNat_natCast, Int.add_assoc]
        by_cases c : (decide (24 * (d : Int) + (hr t + w t) < h) && decide (o t = y)) = true
        · rw [if_pos c, if_pos ⟨q, c⟩]; rfl
        · rw [if_neg c, if_neg (fun z => c z.2)]; rfl
  have outer : ∀ t : Nat, t ≤ K → ∀ k0 : Nat, (k0 : Int) = sumg (fun t => pd (dy t) 7) t → (cB (fun k => decide (r 90 k + w (r 89 k).toNat < h) && decide (o (r 89 k).toNat = y)) k0 : Int) = sumg (fun t => pq (dy t) (fun d => decide (24 * (d : Int) + (hr t + w t) < h) && decide (o t = y)) 7) t := by
    intro t
    induction t with
    | zero =>
      intro _ k0 hk0
      have : k0 = 0 := by
        have : (k0 : Int) = 0 := hk0
        omega
      rw [this]
      rfl
    | succ t ih =>
      intro ht k1 hk1
      have hb := idx_b (dy := dy) (d := 0) hK (show t < K by omega) (by omega)
      have hk : ((idx dy t 0).toNat : Int) = idx dy t 0 := Int.toNat_of_nonneg hb.1
      have h0 : idx dy t 0 = sumg (fun t => pd (dy t) 7) t := by unfold idx; rw [pd]; omega
      exact inner t (by omega) _ (idx dy t 0).toNat hk (ih (by omega) _ (by rw [hk]; exact h0)) 7 (Nat.le_refl _) k1 hk1
  exact outer K (Nat.le_refl _) N hN
/-- each place of the list holds a duty -/
theorem tab_all {dy hr : Nat → Int} {K : Nat} (hK : K ≤ 12) {r : Mem} (hT : Tab dy hr r K 0) {N : Nat} (hN : (N : Int) = sumg (fun t => pd (dy t) 7) K) (k : Nat) (hk : k < N) : ∃ t d : Nat, t < K ∧ d < 7 ∧ r 89 k = t ∧ r 90 k = 24 * (d : Int) + hr t := by
  have inner : ∀ t : Nat, t < K → ∀ d : Nat, d ≤ 7 → idx dy t 0 ≤ k → (k : Int) < idx dy t d → ∃ t d : Nat, t < K ∧ d < 7 ∧ r 89 k = t ∧ r 90 k = 24 * (d : Int) + hr t := by
    intro t ht d
    induction d with
    | zero => intro _ h1 h2; omega
    | succ d ih =>
      intro hd h1 h2
      have e1 : idx dy t (d + 1) = idx dy t d + bit (dy t) d := by unfold idx; rw [pd]; omega
      by_cases c : (k : Int) < idx dy t d
      · exact ih (by omega) h1 c
      · rcases bit_01 (dy t) d with q | q
        · omega
        · have e : (k : Int) = idx dy t d := by omega
          obtain ⟨t1, t2⟩ := hT t d (Or.inl ht) (by omega) q
          rw [← e] at t1 t2
          exact ⟨t, d, ht, by omega, t1, t2⟩
  have outer : ∀ t : Nat, t ≤ K → (k : Int) < sumg (fun t => pd (dy t) 7) t → ∃ t d : Nat, t < K ∧ d < 7 ∧ r 89 k = t ∧ r 90 k = 24 * (d : Int) + hr t := by
    intro t
    induction t with
    | zero => intro _ h; exact absurd h (by show ¬ (k : Int) < 0; omega)
    | succ t ih =>
      intro ht h
      have h0 : idx dy t 0 = sumg (fun t => pd (dy t) 7) t := by unfold idx; rw [pd]; omega
      by_cases c : (k : Int) < sumg (fun t => pd (dy t) 7) t
      · exact ih (by omega) c
      · exact inner t (by omega) 7 (Nat.le_refl _) (by omega) h
  exact outer K (Nat.le_refl _) (by omega)
