/-! crews: the reference's pairs of duties -/
def MV (F : Nat → Nat → Prop) (N : Nat) (B A : Int → Int) (h : Int) : Prop :=
  (∀ x : Nat, x < N → B x = -1 ∨ ∃ j : Nat, j < N ∧ B x = j ∧ ¬ (j : Int) = h ∧ A j = x) ∧
  (∀ j : Nat, j < N → ¬ (j : Int) = h → A j = -1 ∨ ∃ x : Nat, x < N ∧ A j = x ∧ F x j ∧ B x = j)
theorem mv_step {F : Nat → Nat → Prop} {N : Nat} {B A : Int → Int} {j x : Nat} (hM : MV F N B A j) (hj : j < N) (hx : x < N) (hF : F x j) : MV F N (rset B x j) (rset A j x) (B x) := by
  obtain ⟨h1, h2⟩ := hM
  refine ⟨fun z hz => ?_, fun y hy hn => ?_⟩
  · by_cases e : z = x
    · subst e
      refine Or.inr ⟨j, hj, rset_eq rfl, fun w => ?_, rset_eq rfl⟩
      rcases h1 z hz with q | ⟨j', hj', q1, q2, q3⟩
      · omega
      · exact q2 (by rw [← q1]; exact w.symm)
    · rw [rset_ne (show ¬ (z : Int) = (x : Int) by omega)]
      rcases h1 z hz with q | ⟨j', hj', q1, q2, q3⟩
      · exact Or.inl q
      · refine Or.inr ⟨j', hj', q1, fun w => ?_, by rw [rset_ne q2]; exact q3⟩
        rcases h1 x hx with p | ⟨j2, hj2, p1, p2, p3⟩
        · omega
        · have : j2 = j' := by omega
          subst this
          omega
  · by_cases e : y = j
    · subst e
      exact Or.inr ⟨x, hx, rset_eq rfl, hF, rset_eq rfl⟩
    · rw [rset_ne (show ¬ (y : Int) = (j : Int) by omega)]
      rcases h2 y hy (by omega) with q | ⟨z, hz, q1, q2, q3⟩
      · exact Or.inl q
      · refine Or.inr ⟨z, hz, q1, q2, ?_⟩
        by_cases w : z = x
        · subst w; exact absurd q3.symm hn
        · rw [rset_ne (show ¬ (z : Int) = (x : Int) by omega)]; exact q3
/-- what a turned path keeps -/
def TKp (N i : Nat) (L V : Nat → Bool) (B A : Int → Int) : Prop := (∀ z : Nat, z < N → i < z → B z = -1) ∧ ∀ y : Nat, y < N → V y = true → ∃ x : Nat, x < N ∧ A y = x ∧ L x = true
def TP (F : Nat → Nat → Prop) (N i : Nat) (tau : Nat → Nat) (B Fm : Int → Int) (T : Nat) : Prop := ∀ y : Nat, y < N → tau y ≤ T → ¬ Fm y = -1 → ∃ x : Nat, x < N ∧ Fm y = x ∧ F x y ∧ ((x = i ∧ B x = -1) ∨ ∃ y' : Nat, y' < N ∧ B x = y' ∧ ¬ Fm y' = -1 ∧ tau y' < tau y)
def cH (A : Int → Int) (h : Int) (N : Nat) : Nat := cB (fun y => decide (¬ (y : Int) = h ∧ A y = -1)) N
theorem sp_tback {F : Nat → Nat → Prop} {N i : Nat} (hN : N ≤ 84) {L V : Nat → Bool} (hLV : ∀ x y : Nat, x < N → y < N → L x = true → F x y → V y = true) {tau : Nat → Nat} {r0 : Mem} {c : Nat} {post : Mem → Prop} (H : ∀ r : Mem, (∀ x k : Int, ¬ (x = 91 ∨ x = 92) → r x k = r0 x k) → MV F N (r 91) (r 92) (-1) → TKp N i L V (r 91) (r 92) → cH (r 92) (-1) N = c → post r) : ∀ (n j : Nat) (r : Mem), tau j < n → j < N → (∀ x k : Int, ¬ (x = 91 ∨ x = 92) → r x k = r0 x k) → MV F N (r 91) (r 92) j → TKp N i L V (r 91) (r 92) → cH (r 92) j N = c → ¬ r 93 j = -1 → V j = false → TP F N i tau (r 91) (r 93) (tau j) → wp_X11_turnBack_2 post (n + 1) j r := by
  intro n
  induction n with
  | zero => intro j r h; omega
  | succ n ih =>
    intro j r hn hj hf hM hK hc hj1 hVj hP
    obtain ⟨x, hx, e1, hF, hor⟩ := hP j hj (Nat.le_refl _) hj1
    have st := mv_step hM hj hx hF
    have cj : 0 ≤ (j : Int) ∧ (j : Int) < 84 := by omega
    have cx : 0 ≤ (x : Int) ∧ (x : Int) < 84 := by omega
    have nj : ¬ (j : Int) = -1 := by omega
    have r1 : ∀ v : Int, mset r 91 x v 91 = rset (r 91) x v := fun v => mset_s _ _ _ _
    have e91 : mset (mset r 91 x j) 92 j x 91 = rset (r 91) x j := by rw [mset_r (by decide), mset_s]
    have e92 : mset (mset r 91 x j) 92 j x 92 = rset (r 92) j x := by rw [mset_s, mset_r (by decide)]
    have e93 : mset (mset r 91 x j) 92 j x 93 = r 93 := by rw [mset_r (by decide), mset_r (by decide)]
    have hf' : ∀ y k : Int, ¬ (y = 91 ∨ y = 92) → mset (mset r 91 x j) 92 j x y k = r0 y k := fun y k hy => by
      rw [mset_ne (fun z => hy (Or.inr z.1)), mset_ne (fun z => hy (Or.inl z.1))]
      exact hf y k hy
    have hxi : x ≤ i := by
      rcases hor with q | ⟨y', hy', q1, -⟩
      · omega
      · by_cases w : i < x
        · have := hK.1 x hx w; omega
        · omega
    have hK' : TKp N i L V (rset (r 91) x j) (rset (r 92) j x) := by
      refine ⟨fun z hz hiz => ?_, fun y hy hVy => ?_⟩
      · rw [rset_ne (show ¬ (z : Int) = (x : Int) by omega)]; exact hK.1 z hz hiz
      · rw [rset_ne (fun z => by
          have : y = j := by omega
          rw [this, hVj] at hVy
          exact absurd hVy (by decide))]
        exact hK.2 y hy hVy
    have hc' : cH (rset (r 92) j x) (r 91 x) N = c := by
      rw [← hc]
      unfold cH
      refine cB_eq N (fun y hy => decide_eq_decide.mpr ⟨fun w => ?_, fun w => ?_⟩)
      · by_cases e : y = j
        · subst e
          have := w.2
          rw [rset_eq rfl] at this
          omega
        · have := w.2
          rw [rset_ne (show ¬ (y : Int) = (j : Int) by omega)] at this
          exact ⟨by omega, this⟩
      · refine ⟨fun q => ?_, by rw [rset_ne w.1]; exact w.2⟩
        rcases hM.1 x hx with p | ⟨j2, hj2, p1, p2, p3⟩
        · omega
        · have : j2 = y := by omega
          subst this
          have := w.2
          omega
    unfold wp_X11_turnBack_2
    refine bf nj ⟨cj, eqm ?_⟩
    rw [e1]
    refine ⟨cx, eqm ⟨cx, eqm ⟨cj, eqm ?_⟩⟩⟩
    rcases hor with ⟨q1, q2⟩ | ⟨y', hy', q1, q2, q3⟩
    · rw [q2] at st hc' ⊢
      unfold wp_X11_turnBack_2
      exact bt rfl (H _ hf' (by rw [e91, e92]; exact st) (by rw [e91, e92]; exact hK') (by rw [e92]; exact hc'))
    · have hA' : r 92 y' = x := by
        rcases hM.1 x hx with p | ⟨j2, hj2, p1, p2, p3⟩
        · omega
        · have : j2 = y' := by omega
          subst this
          exact p3
      have hVy' : V y' = false := by
        cases hv : V y' with
        | false => rfl
        | true =>
          obtain ⟨x2, hx2, w1, w2⟩ := hK.2 y' hy' hv
          have : x2 = x := by omega
          subst this
          rw [hLV x2 j hx2 hj w2 hF] at hVj
          exact absurd hVj (by decide)
      rw [q1] at st hc' ⊢
      refine ih y' _ (by omega) hy' hf' (by rw [e91, e92]; exact st) (by rw [e91, e92]; exact hK') (by rw [e92]; exact hc') (by rw [e93]; exact q2) hVy' ?_
      rw [e91, e93]
      intro y hy hty hFy
      obtain ⟨x2, hx2, w1, w2, w3⟩ := hP y hy (by omega) hFy
      have hne : ¬ x2 = x := fun w => by
        subst w
        rcases w3 with w3 | ⟨y2, hy2, w4, w5, w6⟩
        · omega
        · have : y2 = y' := by omega
          subst this
          omega
      refine ⟨x2, hx2, w1, w2, ?_⟩
      rw [rset_ne (show ¬ (x2 : Int) = (x : Int) by omega)]
      exact w3
