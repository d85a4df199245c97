/-! legs: the reference's misses -/
def sM (m : Mem) (A : Int → Int) (d : Int) : Mem := mset (mrow m 102 A) 67 59 d
theorem sM_a (m : Mem) (A : Int → Int) (d : Int) : sM m A d 102 = A := by unfold sM; rw [mset_r (by decide), mrow_s]
theorem sM_d (m : Mem) (A : Int → Int) (d : Int) : sM m A d 67 59 = d := mset_same _ _ _ _
theorem sM_f {m : Mem} {A : Int → Int} {d i : Int} (hi : ¬ i = 59) : sM m A d 67 i = m 67 i := by unfold sM; rw [mset_ne (by omega), mrow_ne (by decide)]
theorem sM_r {m : Mem} {A : Int → Int} {d c : Int} (hc : ¬ c = 102) (h67 : ¬ c = 67) : sM m A d c = m c := by unfold sM; rw [mset_r h67, mrow_ne hc]
theorem sM_sa (m : Mem) (A : Int → Int) (d i v : Int) : mset (sM m A d) 102 i v = sM m (rset A i v) d := by
  funext c j
  unfold sM
  rw [mset_at, mset_at, mset_at, ← mrow_set, mset_at]
  by_cases h : c = 102
  · subst h
    rw [if_neg (show ¬ ((102 : Int) = 67 ∧ j = 59) by omega), if_neg (show ¬ ((102 : Int) = 67 ∧ j = 59) by omega)]
  · rw [if_neg (show ¬ (c = 102 ∧ j = i) from fun z => h z.1), if_neg (show ¬ (c = 102 ∧ j = i) from fun z => h z.1)]
theorem sM_sd (m : Mem) (A : Int → Int) (d v : Int) : mset (sM m A d) 67 59 v = sM m A v := by
  funext c j
  unfold sM
  rw [mset_at, mset_at, mset_at]
  split <;> rfl
theorem sp_countM {K : Nat} (hK : K ≤ 5) {v : Int} {t : Int → Int} {m : Mem} {post : Mem → Prop} (h0 : m 67 27 = K) (ht : ∀ i : Nat, i < K → m 85 i = t i ∧ 0 ≤ t i ∧ t i ≤ 9) (H : ∀ A : Int → Int, A 0 = 1 ∧ A 1 = 0 ∧ A 2 = 0 ∧ A 3 = 0 ∧ A 4 = 0 ∧ A 5 = 0 → ∃ n : Nat, wp_X11_shareBy_130 post n v (fd (fun i x => w64 (x * (10 - t i))) K 1) 0 0 (sM m (ms t K A) (fd (fun _ x => w64 (x * 10)) K 1))) : wp_X11_shareBy v m post := by
  have inner : ∀ (Kp : Int → Int → Int → Mem → Prop) (a : Nat) (p d : Int) (A : Int → Int), a < K → Kp v p a (sM m (ms2 (t a) A) d) → ∀ r j : Nat, j + r = 5 → wp_X11_shareBy_51 Kp post (r + 1) v p a ((j + 1 : Nat) : Int) (sM m (lp (ms1 (t a)) j A) d) := by
    intro Kp a p d A ha hKp r
    induction r with
    | zero =>
      intro j hj
      unfold wp_X11_shareBy_51
      refine bt (by omega) ?_
      rw [show j = 5 by omega]
      exact hKp
    | succ r ih =>
      intro j hj
      have nx := ih (j + 1) (by omega)
      have e : lp (ms1 (t a)) (j + 1) A = ms1 (t a) j (lp (ms1 (t a)) j A) := rfl
      rw [e] at nx
      generalize lp (ms1 (t a)) j A = B at nx ⊢
      unfold wp_X11_shareBy_51
      rw [sM_a, sM_r (by decide) (by decide), (ht a ha).1, i1 (j + 1) (by omega), show w32 (((j + 1 : Nat) : Int) - 1) = (j : Int) by unfold w32; omega]
      refine bf (by omega) ⟨by omega, by omega, by omega, by omega, eqm ?_⟩
      rw [sM_sa, Int.mul_comm (B (j : Int)) (t a)]
      unfold ms1 at nx
      exact nx
  have outer : ∀ (A : Int → Int), (∃ n : Nat, wp_X11_shareBy_130 post n v (fd (fun i x => w64 (x * (10 - t i))) K 1) 0 0 (sM m (ms t K A) (fd (fun _ x => w64 (x * 10)) K 1))) → ∀ r a : Nat, a + r = K → wp_X11_shareBy_39 (fun v1_5 v2_5 v4_5 v6_5 m_5 => ∃ n_7 : Nat, wp_X11_shareBy_130 post n_7 v1_5 v2_5 v4_5 v6_5 m_5) post (r + 1) v (fd (fun i x => w64 (x * (10 - t i))) a 1) a (sM m (ms t a A) (fd (fun _ x => w64 (x * 10)) a 1)) := by
    intro A hA r
    induction r with
    | zero => intro a ha; unfold wp_X11_shareBy_39; rw [sM_f (by decide), h0]; refine bt (by omega) ?_; rw [show a = K by omega]; exact hA
    | succ r ih =>
      intro a ha
      have hta := ht a (by omega)
      unfold wp_X11_shareBy_39
      rw [sM_f (by decide), h0]
      refine bf (by omega) ⟨6, inner _ a _ _ _ (by omega) ⟨by omega, eqm (eqm ?_)⟩ 5 0 (by omega)⟩
      rw [sM_r (by decide) (by decide), hta.1, sM_d, sM_sd, i1 a (by omega), w32_i (x := 10 - t a) (by omega)]
      exact ih (a + 1) (by omega)
  have init : ∀ (r i : Nat) (B : Int → Int), i + r = 6 → (∀ j : Nat, j < i → B j = if j = 0 then 1 else 0) → wp_X11_shareBy_2 (fun v1_1 v2_1 v4_1 m_1 => ∃ n_8 : Nat, wp_X11_shareBy_39 (fun v1_5 v2_5 v4_5 v6_5 m_5 => ∃ n_7 : Nat, wp_X11_shareBy_130 post n_7 v1_5 v2_5 v4_5 v6_5 m_5) post n_8 v1_1 v2_1 v4_1 m_1) post (r + 1) v i (mrow m 102 B) := by
    intro r
    induction r with
    | zero =>
      intro i B hi hB
      unfold wp_X11_shareBy_2
      refine bt (by omega) (eqm ⟨K + 1, ?_⟩)
      have hB' : B 0 = 1 ∧ B 1 = 0 ∧ B 2 = 0 ∧ B 3 = 0 ∧ B 4 = 0 ∧ B 5 = 0 := ⟨hB 0 (by omega), hB 1 (by omega), hB 2 (by omega), hB 3 (by omega), hB 4 (by omega), hB 5 (by omega)⟩
      exact outer B (H B hB') K 0 (by omega)
    | succ r ih =>
      intro i B hi hB
      unfold wp_X11_shareBy_2
      rw [i1 i (by omega)]
      refine bf (by omega) ⟨fun z => ⟨by omega, eqm ?_⟩, fun z => ⟨by omega, eqm ?_⟩⟩
      · rw [mrow_set]
        refine ih (i + 1) _ (by omega) (fun j hj => ?_)
        by_cases e : j = i
        · rw [e, rset_eq rfl, if_neg (by omega)]
        · rw [rset_ne (by omega)]; exact hB j (by omega)
      · rw [mrow_set]
        refine ih (i + 1) _ (by omega) (fun j hj => ?_)
        by_cases e : j = i
        · rw [e, rset_eq rfl, if_pos (by omega)]
        · rw [rset_ne (by omega)]; exact hB j (by omega)
  have := init 6 0 (m 102) (by omega) (fun j hj => by omega)
  rw [mrow_self] at this
  exact ⟨7, this⟩
