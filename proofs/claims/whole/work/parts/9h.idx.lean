/-! crews: the reference's list of duties -/
theorem pd_m (x : Int) (d : Nat) : ∀ j : Nat, pd x d ≤ pd x (d + j)
  | 0 => Int.le_refl _
  | j + 1 => by
    have ih := pd_m x d j
    have hb := bit_01 x (d + j : Nat)
    show _ ≤ pd x (d + j + 1)
    rw [pd]
    omega
theorem pd_lt {x : Int} {d e : Nat} (hb : bit x d = 1) (h : d < e) : pd x d < pd x e := by
  have h1 := pd_m x (d + 1) (e - (d + 1))
  rw [show d + 1 + (e - (d + 1)) = e by omega, pd] at h1
  omega
theorem sumg_m {g : Nat → Int} (a : Nat) : ∀ j : Nat, (∀ i : Nat, i < a + j → 0 ≤ g i) → sumg g a ≤ sumg g (a + j)
  | 0, _ => Int.le_refl _
  | j + 1, h => by
    have ih := sumg_m a j (fun i hi => h i (by omega))
    have h1 := h (a + j) (by omega)
    show _ ≤ sumg g (a + j + 1)
    rw [sumg]
    omega
/-- the place of a duty in the list -/
def idx (dy : Nat → Int) (t d : Nat) : Int := sumg (fun t => pd (dy t) 7) t + pd (dy t) d
theorem idx_lt {dy : Nat → Int} {t' d' t d : Nat} (h : t' < t ∨ (t' = t ∧ d' < d)) (hd : d' < 7) (hb : bit (dy t') d' = 1) : idx dy t' d' < idx dy t d := by
  unfold idx
  rcases h with h | ⟨h, h2⟩
  · have h1 := pd_lt hb hd
    have h2 := sumg_m (g := fun t => pd (dy t) 7) (t' + 1) (t - (t' + 1)) (fun i _ => (pd_r (dy i) 7).1)
    have h3 := (pd_r (dy t) d).1
    rw [show t' + 1 + (t - (t' + 1)) = t by omega, sumg] at h2
    omega
  · subst h
    have h1 := pd_lt hb h2
    omega
def Tab (dy hr : Nat → Int) (r : Mem) (t d : Nat) : Prop := ∀ t' d' : Nat, (t' < t ∨ (t' = t ∧ d' < d)) → d' < 7 → bit (dy t') d' = 1 → r 89 (idx dy t' d') = t' ∧ r 90 (idx dy t' d') = 24 * (d' : Int) + hr t'
def FrD (r0 r : Mem) : Prop := ∀ x i : Int, ¬ (x = 89 ∨ x = 90 ∨ (x = 67 ∧ i = 41)) → r x i = r0 x i
theorem idx_b {dy : Nat → Int} {K t d : Nat} (hK : K ≤ 12) (ht : t < K) (hd : d ≤ 7) : 0 ≤ idx dy t d ∧ idx dy t d ≤ 84 ∧ (d < 7 → bit (dy t) d = 1 → idx dy t d < 84) := by
  have h1 := sumg_b (g := fun t => pd (dy t) 7) (B := 7) t (fun j _ => pd_r (dy j) 7)
  have h2 := pd_r (dy t) d
  unfold idx
  refine ⟨by omega, by omega, fun h3 h4 => ?_⟩
  have h5 := pd_lt h4 h3
  have h6 := pd_r (dy t) 7
  omega
