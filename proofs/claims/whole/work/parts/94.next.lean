/-! an hour: the wagon that has waited longest -/
def nxw (at_ si g : Int → Int) (f T b : Int) : Nat → Int
  | 0 => -1
  | w + 1 => if at_ w = f ∧ si w ≤ T ∧ g w = b ∧ (nxw at_ si g f T b w = -1 ∨ si w < si (nxw at_ si g f T b w)) then (w : Int) else nxw at_ si g f T b w
theorem nxw_r (at_ si g : Int → Int) (f T b : Int) : ∀ k : Nat, nxw at_ si g f T b k = -1 ∨ (0 ≤ nxw at_ si g f T b k ∧ nxw at_ si g f T b k < k ∧ at_ (nxw at_ si g f T b k) = f ∧ si (nxw at_ si g f T b k) ≤ T)
  | 0 => Or.inl rfl
  | k + 1 => by
    rw [nxw]
    by_cases h : at_ k = f ∧ si k ≤ T ∧ g k = b ∧ (nxw at_ si g f T b k = -1 ∨ si k < si (nxw at_ si g f T b k))
    · rw [if_pos h]; exact Or.inr ⟨by omega, by omega, h.1, h.2.1⟩
    · rw [if_neg h]
      rcases nxw_r at_ si g f T b k with q | ⟨q1, q2, q3, q4⟩
      · exact Or.inl q
      · exact Or.inr ⟨q1, by omega, q3, q4⟩
theorem nxw_c {at_ si g at' si' g' : Int → Int} {f T b : Int} : ∀ k : Nat, (∀ w : Int, 0 ≤ w → w < k → at' w = at_ w ∧ si' w = si w ∧ (at_ w = f → g' w = g w)) → nxw at' si' g' f T b k = nxw at_ si g f T b k
  | 0, _ => rfl
  | k + 1, h => by
    have ih := nxw_c (b := b) (T := T) k (fun w w0 w1 => h w w0 (by omega))
    have hk := h k (by omega) (by omega)
    rw [nxw, nxw, ih, hk.1, hk.2.1]
    have es : nxw at_ si g f T b k = -1 ∨ si' (nxw at_ si g f T b k) = si (nxw at_ si g f T b k) := by
      rcases nxw_r at_ si g f T b k with q | q
      · exact Or.inl q
      · exact Or.inr (h _ q.1 (by omega)).2.1
    have ec : (at_ k = f ∧ si k ≤ T ∧ g' k = b ∧ (nxw at_ si g f T b k = -1 ∨ si k < si' (nxw at_ si g f T b k))) ↔ (at_ k = f ∧ si k ≤ T ∧ g k = b ∧ (nxw at_ si g f T b k = -1 ∨ si k < si (nxw at_ si g f T b k))) := by
      constructor
      · rintro ⟨a, b', d, e⟩
        rw [hk.2.2 a] at d
        refine ⟨a, b', d, ?_⟩
        rcases es with q | q
        · exact Or.inl q
        · rw [q] at e; exact e
      · rintro ⟨a, b', d, e⟩
        refine ⟨a, b', by rw [hk.2.2 a]; exact d, ?_⟩
        rcases es with q | q
        · exact Or.inl q
        · rw [q]; exact e
    by_cases q : at_ k = f ∧ si k ≤ T ∧ g k = b ∧ (nxw at_ si g f T b k = -1 ∨ si k < si (nxw at_ si g f T b k))
    · rw [if_pos q, if_pos (ec.mpr q)]
    · rw [if_neg q, if_neg (fun z => q (ec.mp z))]
theorem sp_nextC {k : Nat} (hk : k ≤ 30) {b : Int} (hb : 0 ≤ b ∧ b < 20) {m : Mem} {post : Int → Mem → Prop} (e28 : m 28 4 = k) (hf : 0 ≤ m 7 b ∧ m 7 b < 8) (hg : ∀ w : Int, 0 ≤ w → w < k → 0 ≤ m 32 w ∧ m 32 w < 8) (H : post (nxw (m 31) (m 34) (fun w => m 11 (8 * m 31 w + m 32 w)) (m 7 b) (m 28 0) b k) m) : wp_X9_nextFor b m post := by
  have key : ∀ r w : Nat, w + r = k → wp_X9_nextFor_5 post (r + 1) b (nxw (m 31) (m 34) (fun w => m 11 (8 * m 31 w + m 32 w)) (m 7 b) (m 28 0) b w) w m := by
    intro r
    induction r with
    | zero =>
      intro w hw
      unfold wp_X9_nextFor_5
      rw [e28]
      refine bt (by omega) ?_
      rw [show w = k by omega]; exact H
    | succ r ih =>
      intro w hw
      have nx := ih (w + 1) (by omega)
      have hr := nxw_r (m 31) (m 34) (fun w => m 11 (8 * m 31 w + m 32 w)) (m 7 b) (m 28 0) b w
      have hgw := hg w (by omega) (by omega)
      rw [nxw] at nx
      generalize nxw (m 31) (m 34) (fun w => m 11 (8 * m 31 w + m 32 w)) (m 7 b) (m 28 0) b w = z at nx hr ⊢
      have hw30 : 0 ≤ (w : Int) ∧ (w : Int) < 30 := by omega
      have hkw : ¬ (k : Int) ≤ w := by omega
      have ei := i1 w (by omega)
      unfold wp_X9_nextFor_5 wp_X9_nextFor_79
      rw [e28, ei]
      refine bf hkw ⟨hw30, hb, fun q => ?_, fun q => ⟨hw30, fun q2 => ⟨hw30, hw30, ?_⟩, fun q2 => ?_⟩⟩
      · rw [if_neg (fun u => q u.1)] at nx; exact nx
      · rw [ix8 (by omega) (by omega) hgw.1 hgw.2]
        refine ⟨by omega, fun q3 => z0 ?_, fun q3 => z1 ⟨fun q4 => ?_, fun q4 => ⟨hw30, by omega, fun q5 => ?_, fun q5 => ?_⟩⟩⟩
        · rw [if_neg (fun u => q3 u.2.2.1)] at nx; exact nx
        · rw [if_pos ⟨q, q2, q3, Or.inl q4⟩] at nx; exact nx
        · rw [if_neg (fun u => by have := u.2.2.2; omega)] at nx; exact nx
        · rw [if_pos ⟨q, q2, q3, Or.inr (by omega)⟩] at nx; exact nx
      · rw [if_neg (fun u => q2 u.2.1)] at nx; exact nx
  exact ⟨k + 1, key k 0 (by omega)⟩
theorem sp_nextM {k : Nat} (hk : k ≤ 30) {b : Int} (hb : 0 ≤ b ∧ b < 20) {m : Mem} {post : Int → Mem → Prop} (e13 : m 67 13 = k) (e4 : 0 ≤ m 67 4 ∧ m 67 4 ≤ 20) (H : post (nxw (fun w => m 77 (6 * w)) (fun w => m 77 (6 * w + 2)) (fun w => pick (m 70) (m 72) (m 73) (m 70 b) (m 77 (6 * w + 5)) (m 67 4).toNat) (m 70 b) (m 67 18) b k) m) : wp_X11_longest b m post := by
  have key : ∀ r w : Nat, w + r = k → wp_X11_longest_4 post (r + 1) b (nxw (fun w => m 77 (6 * w)) (fun w => m 77 (6 * w + 2)) (fun w => pick (m 70) (m 72) (m 73) (m 70 b) (m 77 (6 * w + 5)) (m 67 4).toNat) (m 70 b) (m 67 18) b w) w m := by
    intro r
    induction r with
    | zero =>
      intro w hw
      unfold wp_X11_longest_4
      rw [e13]
      refine bt (by omega) ?_
      rw [show w = k by omega]; exact H
    | succ r ih =>
      intro w hw
      have nx := ih (w + 1) (by omega)
      have hr := nxw_r (fun w => m 77 (6 * w)) (fun w => m 77 (6 * w + 2)) (fun w => pick (m 70) (m 72) (m 73) (m 70 b) (m 77 (6 * w + 5)) (m 67 4).toNat) (m 70 b) (m 67 18) b w
      rw [nxw] at nx
      generalize nxw (fun w => m 77 (6 * w)) (fun w => m 77 (6 * w + 2)) (fun w => pick (m 70) (m 72) (m 73) (m 70 b) (m 77 (6 * w + 5)) (m 67 4).toNat) (m 70 b) (m 67 18) b w = z at nx hr ⊢
      have hz : z = -1 ∨ (0 ≤ z ∧ z < 30) := by
        rcases hr with q | q
        · exact Or.inl q
        · exact Or.inr (by omega)
      have hkw : ¬ (k : Int) ≤ w := by omega
      have ei := i1 w (by omega)
      have x0 : w32 (6 * (w : Int)) = 6 * (w : Int) := ix6 (by omega) (by omega)
      have x2 : w32 (6 * (w : Int) + 2) = 6 * (w : Int) + 2 := w32_i (by omega)
      have x5 : w32 (6 * (w : Int) + 5) = 6 * (w : Int) + 5 := w32_i (by omega)
      have y2 : ¬ z = -1 → w32 (w32 (6 * z) + 2) = 6 * z + 2 := fun q => ix6' (by omega) (by omega) (by omega) (by omega)
      unfold wp_X11_longest_4 wp_X11_longest_77 wp_X11_longest_78
      rw [e13, ei, x0, x2, x5]
      refine bf hkw ⟨by omega, hb, fun q => z0 ?_, fun q => ⟨by omega, fun q2 => z0 ?_, fun q2 => ⟨hb, by omega, sp_goesOf e4 ⟨fun q3 => z0 ?_, fun q3 => z1 ⟨fun q4 => ?_, fun q4 => ⟨by omega, ?_⟩⟩⟩⟩⟩⟩
      · rw [if_neg (fun u => q u.1)] at nx; exact nx
      · rw [if_neg (fun u => by have := u.2.1; omega)] at nx; exact nx
      · rw [if_neg (fun u => q3 u.2.2.1)] at nx; exact nx
      · rw [if_pos ⟨q, by omega, q3, Or.inl q4⟩] at nx; exact nx
      · rw [y2 q4]
        refine ⟨by omega, fun q5 => ?_, fun q5 => ?_⟩
        · rw [if_neg (fun u => by have := u.2.2.2; omega)] at nx; exact nx
        · rw [if_pos ⟨q, by omega, q3, Or.inr (by omega)⟩] at nx; exact nx
  exact ⟨k + 1, key k 0 (by omega)⟩
/-! the states of both sides while hours go by, beside the state m at the beginning -/
def CS (m c : Mem) : Prop := ∀ x i : Int, ¬ ((22 ≤ x ∧ x ≤ 26) ∨ x = 31 ∨ (33 ≤ x ∧ x ≤ 36) ∨ (x = 28 ∧ i = 0)) → c x i = m x i
def MS (m r : Mem) : Prop := ∀ x i : Int, 67 ≤ x → ¬ (x = 75 ∨ x = 76 ∨ x = 77 ∨ (x = 67 ∧ i = 18)) → r x i = m x i
def WgE (m c r : Mem) (i : Int) : Prop := r 77 (6 * i) = c 31 i ∧ r 77 (6 * i + 1) = c 33 i ∧ r 77 (6 * i + 2) = c 34 i ∧ r 77 (6 * i + 3) = c 35 i ∧ r 77 (6 * i + 4) = c 36 i ∧ r 77 (6 * i + 5) = m 32 i
def DW (m : Mem) (P : Int) (c r : Mem) (cm : Int → Int) : Prop := ∀ i : Int, 0 ≤ i → i < m 28 4 → WgE m c r i ∧ RWag (m 1 0) (m 13 0) P (c 31) (m 32) (c 33) (c 34) (c 36) cm i
def DT1 (m : Mem) (P : Int) (c r : Mem) (i : Int) : Prop := (r 75 (3 * i) = c 22 i ∧ r 75 (3 * i + 1) = c 23 i ∧ r 75 (3 * i + 2) = c 24 i ∧ r32 (c 23 i)) ∧ RRun P (m 21 i) (m 18 i) (c 25 i) (c 26 i) (fun q => r 76 (4 * i + q))
def DT (m : Mem) (P : Int) (c r : Mem) : Prop := ∀ i : Int, 0 ≤ i → i < m 13 0 → DT1 m P c r i
def Dy (m : Mem) (T P : Int) (c r : Mem) : Prop := CS m c ∧ c 28 0 = T ∧ MS m r ∧ r 67 18 = T ∧ DT m P c r ∧ DW m P c r (r 76)
/-- both sides choose the same wagon -/
theorem nx_eq {m : Mem} (hR : Rel m) {T : Int} {c r : Mem} (h1 : CS m c) (h2 : c 28 0 = T) (h3 : MS m r) (h4 : r 67 18 = T) {k : Nat} (hk : m 28 4 = k) (hE : ∀ i : Int, 0 ≤ i → i < m 28 4 → WgE m c r i) {b : Int} (hb : 0 ≤ b ∧ b < m 6 0) : nxw (fun w => r 77 (6 * w)) (fun w => r 77 (6 * w + 2)) (fun w => pick (r 70) (r 72) (r 73) (r 70 b) (r 77 (6 * w + 5)) (r 67 4).toNat) (r 70 b) (r 67 18) b k = nxw (c 31) (c 34) (fun w => c 11 (8 * c 31 w + c 32 w)) (c 7 b) (c 28 0) b k := by
  obtain ⟨b1, b2, b3, b4, b5⟩ := id hR.2.2.1
  have hn := hR.n
  have hb4 := b4 b hb.1 hb.2
  have e70 : r 70 b = c 7 b := by rw [h3 70 b (by decide) (by omega), h1 7 b (by omega)]; exact hb4.1.1
  have r70 : r 70 = m 70 := funext fun i => h3 70 i (by decide) (by omega)
  have r72 : r 72 = m 72 := funext fun i => h3 72 i (by decide) (by omega)
  have r73 : r 73 = m 73 := funext fun i => h3 73 i (by decide) (by omega)
  have e4 : r 67 4 = m 6 0 := by rw [h3 67 4 (by decide) (by omega)]; exact b1
  have c7 : c 7 b = m 7 b := h1 7 b (by omega)
  rw [e70, h4, h2]
  refine nxw_c k (fun w w0 w1 => ?_)
  have hw := hE w w0 (by omega)
  refine ⟨hw.1, hw.2.2.1, fun ha => ?_⟩
  have hgl := (hR.2.2.2.2.1.2.2.2.2.2.2.2.2.2.2 w w0 (by omega)).2
  show pick (r 70) (r 72) (r 73) (c 7 b) (r 77 (6 * w + 5)) (r 67 4).toNat = c 11 (8 * c 31 w + c 32 w)
  rw [r70, r72, r73, e4, hw.2.2.2.2.2, ha, h1 32 w (by omega), h1 11 _ (by omega), c7]
  exact (b5 _ _ (by omega) (by omega) hgl.1 (by have := hgl.2.1; omega)).symm
