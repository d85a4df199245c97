/-! legs: hours and misses -/
theorem sp_hoursC {K : Nat} (hK : K ≤ 5) {m : Mem} {post : Int → Mem → Prop} (h0 : m 59 0 = K) (hb : ∀ i : Nat, i < K → 0 ≤ m 60 i ∧ m 60 i ≤ 99) (H : post (sumg (fun i => m 60 i) K) m) : wp_X4_hoursUnmissed m post := by
  have key : ∀ r i : Nat, i + r = K → wp_X4_hoursUnmissed_4 post (r + 1) (sumg (fun i => m 60 i) i) i m := by
    intro r
    induction r with
    | zero => intro i hi; unfold wp_X4_hoursUnmissed_4; rw [h0]; refine bt (by omega) ?_; rw [show i = K by omega]; exact H
    | succ r ih =>
      intro i hi
      have hs := sumg_r (g := fun i => m 60 i) i (fun j hj => hb j (by omega))
      have hbi := hb i (by omega)
      unfold wp_X4_hoursUnmissed_4
      rw [h0, i1 i (by omega)]
      refine bf (by omega) ⟨by omega, eqm ?_⟩
      rw [w32_i (by omega)]
      exact ih (i + 1) (by omega)
  exact ⟨K + 1, key K 0 (by omega)⟩
theorem sp_hoursM {K : Nat} (hK : K ≤ 5) {g : Nat → Int} {m : Mem} {post : Int → Mem → Prop} (h0 : m 67 27 = K) (hb : ∀ i : Nat, i < K → m 84 i = g i ∧ 0 ≤ g i ∧ g i ≤ 99) (H : post (sumg g K) m) : wp_X11_legsTogether m post := by
  have key : ∀ r i : Nat, i + r = K → wp_X11_legsTogether_4 post (r + 1) (sumg g i) i m := by
    intro r
    induction r with
    | zero => intro i hi; unfold wp_X11_legsTogether_4; rw [h0]; refine bt (by omega) ?_; rw [show i = K by omega]; exact H
    | succ r ih =>
      intro i hi
      have hs := sumg_r (g := g) i (fun j hj => (hb j (by omega)).2)
      have hbi := hb i (by omega)
      unfold wp_X11_legsTogether_4
      rw [h0, i1 i (by omega), hbi.1]
      refine bf (by omega) ⟨by omega, eqm ?_⟩
      rw [w32_i (by omega)]
      exact ih (i + 1) (by omega)
  exact ⟨K + 1, key K 0 (by omega)⟩
/-- one more leg that misses t times in ten: place j -/
def ms1 (t : Int) (j : Nat) (A : Int → Int) : Int → Int := rset A ((j + 1 : Nat) : Int) (w64 (A ((j + 1 : Nat) : Int) + w64 (t * A (j : Int))))
def ms2 (t : Int) (A : Int → Int) : Int → Int := lp (ms1 t) 5 A
def ms (t : Int → Int) (K : Nat) (A : Int → Int) : Int → Int := lp (fun i => ms2 (t i)) K A
theorem sp_countC {K : Nat} (hK : K ≤ 5) {m : Mem} {post : Mem → Prop} (h0 : m 59 0 = K) (H : ∀ A : Int → Int, A 0 = 1 ∧ A 1 = 0 ∧ A 2 = 0 ∧ A 3 = 0 ∧ A 4 = 0 ∧ A 5 = 0 → post (mrow m 62 (ms (m 61) K A))) : wp_X4_countMissing m post := by
  have inner : ∀ (Kp : Int → Mem → Prop) (a : Nat) (A : Int → Int), a < K → Kp ((a + 1 : Nat) : Int) (mrow m 62 (ms2 (m 61 a) A)) → ∀ r j : Nat, j + r = 5 → wp_X4_countMissing_27 Kp post (r + 1) a ((j + 1 : Nat) : Int) (mrow m 62 (lp (ms1 (m 61 a)) j A)) := by
    intro Kp a A ha hKp r
    induction r with
    | zero =>
      intro j hj
      unfold wp_X4_countMissing_27
      rw [i1 a (by omega)]
      refine bt (by omega) ?_
      rw [show j = 5 by omega]
      exact hKp
    | succ r ih =>
      intro j hj
      have nx := ih (j + 1) (by omega)
      have e : lp (ms1 (m 61 a)) (j + 1) A = ms1 (m 61 a) j (lp (ms1 (m 61 a)) j A) := rfl
      rw [e] at nx
      generalize lp (ms1 (m 61 a)) j A = B at nx ⊢
      unfold wp_X4_countMissing_27
      rw [mrow_s, mrow_ne (by decide), i1 (j + 1) (by omega), show w32 (((j + 1 : Nat) : Int) - 1) = (j : Int) by unfold w32; omega]
      refine bf (by omega) ⟨by omega, by omega, by omega, by omega, eqm ?_⟩
      rw [mrow_set]
      unfold ms1 at nx
      exact nx
  have outer : ∀ (A : Int → Int), post (mrow m 62 (ms (m 61) K A)) → ∀ r a : Nat, a + r = K → wp_X4_countMissing_17 post (r + 1) a (mrow m 62 (ms (m 61) a A)) := by
    intro A hA r
    induction r with
    | zero => intro a ha; unfold wp_X4_countMissing_17; rw [mrow_ne (by decide), h0]; refine bt (by omega) ?_; rw [show a = K by omega]; exact hA
    | succ r ih =>
      intro a ha
      unfold wp_X4_countMissing_17
      rw [mrow_ne (by decide), h0]
      exact bf (by omega) ⟨6, inner _ a _ (by omega) (ih (a + 1) (by omega)) 5 0 (by omega)⟩
  unfold wp_X4_countMissing
  refine sp_fillL (N := 6) rfl (by decide) (by decide) (eqm ⟨K + 1, ?_⟩)
  have e : mset (mfill m 62 0 6 0) 62 0 1 = mrow m 62 (rset (fun i => if 0 ≤ i ∧ i < 6 then 0 else m 62 i) 0 1) := by
    funext c i
    rw [mset_at]
    unfold mrow mfill rset
    by_cases hc : c = 62
    · subst hc
      by_cases hi : i = 0
      · rw [if_pos ⟨rfl, hi⟩, if_pos rfl, if_pos hi]
      · rw [if_neg (fun z => hi z.2), if_pos rfl, if_neg hi]
        show _ = if 0 ≤ i ∧ i < 6 then 0 else m 62 i
        by_cases h6 : 0 ≤ i ∧ i < 6
        · rw [if_pos ⟨rfl, h6⟩, if_pos h6]
        · rw [if_neg (fun z => h6 z.2), if_neg h6]
    · rw [if_neg (fun z => hc z.1), if_neg (fun z => hc z.1), if_neg hc]
  rw [e]
  refine outer _ (H _ ?_) K 0 (by omega)
  exact ⟨rfl, rfl, rfl, rfl, rfl, rfl⟩
