/-! legs: the share within so many missed days, before it is made short -/
def sv (A : Int → Int) (k : Nat) : Int := fd (fun h x => w64 (w64 (10 * x) + A h)) k 0
def dv (k : Nat) (d : Int) : Int := fd (fun h x => if h = 0 then w64 (x * 1) else w64 (x * 10)) k d
theorem sp_130 {v : Nat} (hv : v ≤ 5) {p d : Int} {A : Int → Int} {m : Mem} {post : Mem → Prop} (H : post (mset (sM m A (dv (v + 1) d)) 67 58 (w64 (p * sv A (v + 1))))) : ∃ n : Nat, wp_X11_shareBy_130 post n v p 0 0 (sM m A d) := by
  have key : ∀ r i : Nat, i + r = v + 1 → wp_X11_shareBy_130 post (r + 1) v p (sv A i) i (sM m A (dv i d)) := by
    intro r
    induction r with
    | zero =>
      intro i hi
      unfold wp_X11_shareBy_130
      refine bt (by omega) (eqm ?_)
      rw [show i = v + 1 by omega]
      exact H
    | succ r ih =>
      intro i hi
      have nx := ih (i + 1) (by omega)
      have e1 : sv A (i + 1) = w64 (w64 (10 * sv A i) + A i) := rfl
      have e2 : dv (i + 1) d = if i = 0 then w64 (dv i d * 1) else w64 (dv i d * 10) := rfl
      rw [e1, e2] at nx
      unfold wp_X11_shareBy_130
      rw [sM_a, sM_d, i1 i (by omega)]
      refine bf (by omega) ⟨by omega, eqm ⟨fun z => eqm ?_, fun z => eqm ?_⟩⟩
      · rw [sM_sd]
        rw [if_neg (by omega)] at nx
        exact nx
      · rw [sM_sd]
        rw [if_pos (by omega)] at nx
        exact nx
  exact ⟨v + 2, key (v + 1) 0 (by omega)⟩
theorem sp_shareOf {K v : Nat} (hK : K ≤ 5) (hv : v ≤ 5) {m : Mem} {post : Mem → Prop} (h0 : m 59 0 = K) (ht : ∀ i : Nat, i < K → 0 ≤ m 61 i ∧ m 61 i ≤ 9) (H : ∀ A : Int → Int, A 0 = 1 ∧ A 1 = 0 ∧ A 2 = 0 ∧ A 3 = 0 ∧ A 4 = 0 ∧ A 5 = 0 → wp_X4_reduce (fd (fun i x => w64 (x * (10 - m 61 i))) K (sv (ms (m 61) K A) (v + 1))) (fd (fun _ x => w64 (x * 10)) K (dv (v + 1) 1)) (mrow m 62 (ms (m 61) K A)) (fun m99 => post m99)) : wp_X4_shareOf v m post := by
  unfold wp_X4_shareOf
  refine sp_countC hK h0 (fun A hA => ?_)
  have HA := H A hA
  generalize ms (m 61) K A = B at HA ⊢
  have l58 : ∀ (s d : Int), wp_X4_reduce (fd (fun i x => w64 (x * (10 - m 61 i))) K s) (fd (fun _ x => w64 (x * 10)) K d) (mrow m 62 B) (fun m99 => post m99) → ∀ r i : Nat, i + r = K → wp_X4_shareOf_58 post (r + 1) (fd (fun i x => w64 (x * (10 - m 61 i))) i s) (fd (fun _ x => w64 (x * 10)) i d) i (mrow m 62 B) := by
    intro s d hsd r
    induction r with
    | zero =>
      intro i hi
      unfold wp_X4_shareOf_58
      rw [mrow_ne (by decide), h0]
      refine bt (by omega) ?_
      rw [show i = K by omega]
      exact hsd
    | succ r ih =>
      intro i hi
      have hti := ht i (by omega)
      unfold wp_X4_shareOf_58
      rw [mrow_ne (by decide), h0, mrow_ne (by decide), i1 i (by omega), w32_i (x := 10 - m 61 i) (by omega)]
      exact bf (by omega) ⟨by omega, eqm (eqm (ih (i + 1) (by omega)))⟩
  have l12 : ∀ r i : Nat, i + r = v + 1 → wp_X4_shareOf_12 (fun v2_4 v4_4 v6_4 m_4 => ∃ n_7 : Nat, wp_X4_shareOf_58 post n_7 v2_4 v4_4 v6_4 m_4) post (r + 1) v (sv B i) (dv i 1) i (mrow m 62 B) := by
    intro r
    induction r with
    | zero =>
      intro i hi
      unfold wp_X4_shareOf_12
      refine bt (by omega) ⟨K + 1, ?_⟩
      rw [show i = v + 1 by omega]
      exact l58 _ _ HA K 0 (by omega)
    | succ r ih =>
      intro i hi
      have nx := ih (i + 1) (by omega)
      have e1 : sv B (i + 1) = w64 (w64 (10 * sv B i) + B i) := rfl
      have e2 : dv (i + 1) 1 = if i = 0 then w64 (dv i 1 * 1) else w64 (dv i 1 * 10) := rfl
      rw [e1, e2] at nx
      unfold wp_X4_shareOf_12
      rw [mrow_s, i1 i (by omega)]
      refine bf (by omega) ⟨by omega, eqm ⟨fun z => eqm ?_, fun z => eqm ?_⟩⟩
      · rw [if_pos (by omega)] at nx; exact nx
      · rw [if_neg (by omega)] at nx; exact nx
  exact ⟨v + 2, l12 (v + 1) 0 (by omega)⟩
