/-! a row of wagons: the order by marks, the numbers -/
def key (mk : Int → Int) (x : Int) : Int := 16 * mk x + x
def Srt (k : Nat) (mk W : Int → Int) : Prop := (∀ l : Nat, l < k → 0 ≤ W l ∧ W l < k) ∧ (∀ l l' : Nat, l < l' → l' < k → key mk (W l) < key mk (W l')) ∧ ∀ x : Nat, x < k → ∃ l : Nat, l < k ∧ W l = x
def MkR (k : Nat) (mk : Int → Int) : Prop := ∀ i : Int, 0 ≤ i → i < k → 0 ≤ mk i ∧ mk i ≤ 15
/-- i is put at place j of a row, the others go one behind -/
def InsA (W A : Int → Int) (j i : Nat) : Prop := (∀ l : Nat, l < j → A l = W l) ∧ A j = i ∧ ∀ l : Nat, j ≤ l → l < i → A ((l + 1 : Nat) : Int) = W l
theorem ins_c {W A : Int → Int} {j i : Nat} (hA : InsA W A j i) (l : Nat) (hl : l < i + 1) : (l < j ∧ A l = W l) ∨ (l = j ∧ A l = i) ∨ ∃ p : Nat, l = p + 1 ∧ j ≤ p ∧ p < i ∧ A l = W p := by
  obtain ⟨a1, a2, a3⟩ := hA
  rcases Nat.lt_trichotomy l j with h | h | h
  · exact Or.inl ⟨h, a1 l h⟩
  · exact Or.inr (Or.inl ⟨h, by rw [h]; exact a2⟩)
  · refine Or.inr (Or.inr ⟨l - 1, by omega, by omega, by omega, ?_⟩)
    have := a3 (l - 1) (by omega) (by omega)
    rw [show l - 1 + 1 = l by omega] at this
    exact this
theorem srt_ins {i j : Nat} (hi : i < 16) (hj : j ≤ i) {mk W A : Int → Int} (h : Srt i mk W) (hA : InsA W A j i) (h1 : ∀ l : Nat, j ≤ l → l < i → mk i < mk (W l)) (h2 : 0 < j → mk (W ((j - 1 : Nat) : Int)) ≤ mk i) : Srt (i + 1) mk A := by
  obtain ⟨s1, s2, s3⟩ := h
  have cs := ins_c hA
  have lo : ∀ l : Nat, l < j → mk (W l) ≤ mk i := fun l hl => by
    have g := h2 (by omega)
    by_cases e : l = j - 1
    · rw [e]; exact g
    · have q := s2 l (j - 1) (by omega) (by omega)
      have q1 := s1 l (by omega)
      have q2 := s1 (j - 1) (by omega)
      unfold key at q
      omega
  refine ⟨fun l hl => ?_, fun l l' hl hl' => ?_, fun x hx => ?_⟩
  · rcases cs l hl with ⟨p, e⟩ | ⟨p, e⟩ | ⟨q, p1, p2, p3, e⟩
    · rw [e]; have := s1 l (by omega); omega
    · rw [e]; omega
    · rw [e]; have := s1 q (by omega); omega
  · rcases cs l (by omega) with ⟨p, e⟩ | ⟨p, e⟩ | ⟨q, p1, p2, p3, e⟩
    · rcases cs l' hl' with ⟨p', e'⟩ | ⟨p', e'⟩ | ⟨q', p1', p2', p3', e'⟩
      · rw [e, e']; exact s2 l l' hl (by omega)
      · rw [e, e']
        have g1 := lo l p
        have g2 := s1 l (by omega)
        unfold key
        omega
      · rw [e, e']; exact s2 l q' (by omega) p3'
    · rcases cs l' hl' with ⟨p', e'⟩ | ⟨p', e'⟩ | ⟨q', p1', p2', p3', e'⟩
      · omega
      · omega
      · rw [e, e']
        have g1 := h1 q' p2' p3'
        have g2 := s1 q' p3'
        unfold key
        omega
    · rcases cs l' hl' with ⟨p', e'⟩ | ⟨p', e'⟩ | ⟨q', p1', p2', p3', e'⟩
      · omega
      · omega
      · rw [e, e']; exact s2 q q' (by omega) p3'
  · obtain ⟨a1, a2, a3⟩ := hA
    by_cases e : x = i
    · exact ⟨j, by omega, by rw [a2, e]⟩
    · obtain ⟨l, l1, l2⟩ := s3 x (by omega)
      by_cases h : l < j
      · exact ⟨l, by omega, by rw [a1 l h]; exact l2⟩
      · exact ⟨l + 1, by omega, by rw [a3 l (by omega) l1]; exact l2⟩
theorem sp_order {k : Nat} (hk : k ≤ 16) {m : Mem} {post : Mem → Prop} (h0 : m 37 0 = k) (H : ∀ W : Int → Int, Srt k (m 40) W → post (mrow m 41 W)) : wp_X7_orderByMarks m post := by
  have inner : ∀ (K2 : Int → Mem → Prop) (i : Nat) (W : Int → Int), i < k → Srt i (m 40) W → (∀ A : Int → Int, Srt (i + 1) (m 40) A → K2 ((i + 1 : Nat) : Int) (mrow m 41 A)) → ∀ (j : Nat) (A : Int → Int), j ≤ i → (∀ l : Nat, l < j → A l = W l) → (∀ l : Nat, j ≤ l → l < i → A ((l + 1 : Nat) : Int) = W l) → (∀ l : Nat, j ≤ l → l < i → m 40 i < m 40 (W l)) → wp_X7_orderByMarks_14 K2 post (j + 1) i j j (mrow m 41 A) := by
    intro K2 i W hi hW hK j
    have fin : ∀ (j : Nat) (A : Int → Int), j ≤ i → (∀ l : Nat, l < j → A l = W l) → (∀ l : Nat, j ≤ l → l < i → A ((l + 1 : Nat) : Int) = W l) → (∀ l : Nat, j ≤ l → l < i → m 40 i < m 40 (W l)) → (0 < j → m 40 (W ((j - 1 : Nat) : Int)) ≤ m 40 i) → K2 ((i + 1 : Nat) : Int) (mset (mrow m 41 A) 41 j i) := by
      intro j A hj a1 a2 a3 a4
      rw [mrow_set]
      refine hK _ (srt_ins (by omega) hj hW ⟨fun l hl => ?_, rset_eq rfl, fun l l1 l2 => ?_⟩ a3 a4)
      · rw [rset_ne (by omega)]; exact a1 l hl
      · rw [rset_ne (by omega)]; exact a2 l l1 l2
    induction j with
    | zero =>
      intro A hj a1 a2 a3
      unfold wp_X7_orderByMarks_14
      refine bt (by omega) ⟨by omega, eqm ?_⟩
      rw [i1 i (by omega)]
      exact fin 0 A hj a1 a2 a3 (fun z => by omega)
    | succ j ih =>
      intro A hj a1 a2 a3
      have hWj := hW.1 j (by omega)
      have e1 : w32 (((j + 1 : Nat) : Int) - 1) = (j : Int) := by unfold w32; omega
      have e2 : w32 (((j + 1 : Nat) : Int) + (-1)) = (j : Int) := by unfold w32; omega
      unfold wp_X7_orderByMarks_14
      rw [mrow_s, mrow_ne (by decide), e1, e2, a1 j (by omega), i1 i (by omega)]
      refine bf (by omega) ⟨by omega, by omega, by omega, fun h => ⟨by omega, eqm ?_⟩, fun h => ⟨by omega, by omega, eqm (eqm ?_)⟩⟩
      · exact fin (j + 1) A hj a1 a2 a3 (fun _ => h)
      · rw [mrow_set]
        refine ih _ (by omega) (fun l hl => ?_) (fun l l1 l2 => ?_) (fun l l1 l2 => ?_)
        · rw [rset_ne (by omega)]; exact a1 l (by omega)
        · by_cases e : l = j
          · rw [e, rset_eq rfl]
          · rw [rset_ne (by omega)]; exact a2 l (by omega) l2
        · by_cases e : l = j
          · rw [e]; omega
          · exact a3 l (by omega) l2
  have outer : ∀ (r i : Nat) (W : Int → Int), i + r = k → Srt i (m 40) W → wp_X7_orderByMarks_2 post (r + 1) i (mrow m 41 W) := by
    intro r
    induction r with
    | zero =>
      intro i W hi hW
      unfold wp_X7_orderByMarks_2
      rw [mrow_ne (by decide), h0]
      refine bt (by omega) (H W ?_)
      rw [show k = i by omega]; exact hW
    | succ r ih =>
      intro i W hi hW
      unfold wp_X7_orderByMarks_2
      rw [mrow_ne (by decide), h0]
      refine bf (by omega) ⟨i + 1, ?_⟩
      exact inner _ i W (by omega) hW (fun A hA => ih (i + 1) A (by omega) hA) i W (by omega) (fun _ _ => rfl) (fun l _ _ => by omega) (fun l _ _ => by omega)
  have := outer k 0 (m 41) (by omega) ⟨fun l hl => by omega, fun l l' _ hl => by omega, fun x hx => by omega⟩
  rw [mrow_self] at this
  exact ⟨k + 1, this⟩
def num (W : Int → Int) : Nat → Int
  | 0 => 0
  | j + 1 => if W ((j + 1 : Nat) : Int) < W (j : Int) then num W j + 1 else num W j
theorem num_r (W : Int → Int) : ∀ j : Nat, 0 ≤ num W j ∧ num W j ≤ j
  | 0 => by unfold num; omega
  | j + 1 => by
    have ih := num_r W j
    unfold num
    by_cases h : W ((j + 1 : Nat) : Int) < W (j : Int)
    · rw [if_pos h]; omega
    · rw [if_neg h]; omega
theorem num_m (W : Int → Int) (j : Nat) : ∀ d : Nat, num W j ≤ num W (j + d)
  | 0 => Int.le_refl _
  | d + 1 => by
    have ih := num_m W j d
    show _ ≤ num W (j + d + 1)
    rw [num]
    by_cases h : W ((j + d + 1 : Nat) : Int) < W ((j + d : Nat) : Int)
    · rw [if_pos h]; omega
    · rw [if_neg h]; exact ih
theorem srt_inj {k : Nat} {mk W : Int → Int} (h : Srt k mk W) {l l' : Nat} (h1 : l < k) (h2 : l' < k) (e : W l = W l') : l = l' := by
  rcases Nat.lt_trichotomy l l' with q | q | q
  · have := h.2.1 l l' q h2; rw [e] at this; omega
  · exact q
  · have := h.2.1 l' l q h1; rw [e] at this; omega
theorem sp_numC {k : Nat} (hk : k ≤ 16) {m : Mem} {post : Mem → Prop} (h0 : m 37 0 = k) (H : ∀ W A : Int → Int, Srt k (m 40) W → (∀ l : Nat, l < k → A (W l) = num W l) → post (mrow (mrow m 41 W) 38 A)) : wp_X7_giveNumbers m post := by
  unfold wp_X7_giveNumbers
  refine sp_order hk h0 (fun W hW => ⟨k + 1, ?_⟩)
  have e41 : ∀ A : Int → Int, mrow (mrow m 41 W) 38 A 41 = W := fun A => by rw [mrow_ne (by decide), mrow_s]
  have key : ∀ (r i : Nat) (A : Int → Int), i + r = k → (∀ l : Nat, l < i → A (W l) = num W l) → wp_X7_giveNumbers_8 post (r + 1) (num W (i - 1)) i (mrow (mrow m 41 W) 38 A) := by
    intro r
    induction r with
    | zero =>
      intro i A hi hA
      unfold wp_X7_giveNumbers_8
      rw [mrow_ne (by decide), mrow_ne (by decide), h0]
      refine bt (by omega) (H W A hW ?_)
      intro l hl; exact hA l (by omega)
    | succ r ih =>
      intro i A hi hA
      have hb := hW.1 i (by omega)
      have stp : wp_X7_giveNumbers_40 (num W i) i (mrow (mrow m 41 W) 38 A) (fun v1_1 v2_1 m_1 => wp_X7_giveNumbers_8 post (r + 1) v1_1 v2_1 m_1) post := by
        unfold wp_X7_giveNumbers_40
        rw [e41]
        refine ⟨by omega, by omega, eqm ?_⟩
        rw [mrow_set, i1 i (by omega)]
        refine ih (i + 1) _ (by omega) (fun l hl => ?_)
        by_cases e : l = i
        · rw [e, rset_eq rfl]
        · rw [rset_ne (fun q => e (srt_inj hW (by omega) (by omega) q))]; exact hA l (by omega)
      unfold wp_X7_giveNumbers_8
      rw [mrow_ne (by decide), mrow_ne (by decide), h0]
      refine bf (by omega) ⟨fun z => ?_, fun z => ?_⟩
      · have : i = 0 := by omega
        subst this
        exact stp
      · obtain ⟨j, rfl⟩ : ∃ j : Nat, i = j + 1 := ⟨i - 1, by omega⟩
        have e1 : w32 (((j + 1 : Nat) : Int) - 1) = (j : Int) := by unfold w32; omega
        have hn := num_r W j
        rw [e41, e1]
        rw [num] at stp
        show _ ∧ _ ∧ _
        refine ⟨by omega, by omega, fun h => ?_, fun h => ?_⟩
        · rw [if_neg (by omega)] at stp; exact stp
        · rw [if_pos (by omega)] at stp
          show wp_X7_giveNumbers_40 (w32 (num W j + 1)) _ _ _ _
          rw [w32_i (by omega)]; exact stp
  have := key k 0 (m 38) (by omega) (fun l hl => by omega)
  have e : mrow (mrow m 41 W) 38 (m 38) = mrow m 41 W := by
    have := mrow_self (mrow m 41 W) 38
    rw [mrow_ne (by decide)] at this
    exact this
  rw [e] at this
  exact this
