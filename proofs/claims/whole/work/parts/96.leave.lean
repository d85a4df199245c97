/-! an hour: a train leaves -/
def up4 (s : Int → Int) (q0 x : Int) : Int → Int := fun q => if q = q0 then x else s q
theorem cnt4_up {s : Int → Int} {q0 x v : Int} (hq : 0 ≤ q0 ∧ q0 < 4) : cnt4 (up4 s q0 x) v = cnt4 s v - (if s q0 = v then 1 else 0) + (if x = v then 1 else 0) := by
  unfold cnt4 up4
  rcases (show q0 = 0 ∨ q0 = 1 ∨ q0 = 2 ∨ q0 = 3 by omega) with rfl | rfl | rfl | rfl <;> simp only [reduceIte, Int.reduceEq] <;> omega
theorem ff4 {s : Int → Int} (h : 1 ≤ cnt4 s (-1)) : ∃ q0 : Nat, q0 < 4 ∧ s q0 = -1 ∧ ∀ q : Nat, q < q0 → ¬ s q = -1 := by
  by_cases h0 : s 0 = -1
  · exact ⟨0, by omega, h0, fun q hq => by omega⟩
  · by_cases h1 : s 1 = -1
    · exact ⟨1, by omega, h1, fun q hq => by rw [show q = 0 by omega]; exact h0⟩
    · by_cases h2 : s 2 = -1
      · refine ⟨2, by omega, h2, fun q hq => ?_⟩
        rcases (show q = 0 ∨ q = 1 by omega) with rfl | rfl
        · exact h0
        · exact h1
      · by_cases h3 : s 3 = -1
        · refine ⟨3, by omega, h3, fun q hq => ?_⟩
          rcases (show q = 0 ∨ q = 1 ∨ q = 2 by omega) with rfl | rfl | rfl
          · exact h0
          · exact h1
          · exact h2
        · unfold cnt4 at h
          rw [if_neg h0, if_neg h1, if_neg h2, if_neg h3] at h
          omega
theorem run_free {T hr tk ll lb : Int} {s : Int → Int} (h : RRun (T + 1) hr tk ll lb s) (hT : 0 ≤ T) (hdue : T % 24 = hr) (hll : ll < T) (htk : 1 ≤ tk ∧ tk ≤ 48) : ¬ T + 1 ≤ lb + tk ∧ 1 ≤ cnt4 s (-1) := by
  obtain ⟨a1, a2, a3, a4, a5, a6⟩ := h
  have hlb : ¬ T + 1 ≤ lb + tk := by clear a5 a6; omega
  refine ⟨hlb, ?_⟩
  rw [a6, if_neg hlb]
  split <;> omega
theorem run_leave {T hr tk ll lb : Int} {s : Int → Int} (h : RRun (T + 1) hr tk ll lb s) (hT : 0 ≤ T) (hdue : T % 24 = hr) (hll : ll < T) (htk : 1 ≤ tk ∧ tk ≤ 48) {q0 : Int} (hq : 0 ≤ q0 ∧ q0 < 4) (hs : s q0 = -1) : RRun (T + 1) hr tk T ll (up4 s q0 (T + tk)) := by
  have hf := (run_free h hT hdue hll htk).1
  obtain ⟨a1, a2, a3, a4, a5, a6⟩ := h
  refine ⟨by omega, Or.inl hll, Or.inr ⟨hT, hdue⟩, a3, fun v hv => ?_, ?_⟩
  · rw [cnt4_up hq, a5 v hv, if_neg (show ¬ s q0 = v by omega), if_neg (show ¬ (lb + tk = v ∧ T + 1 ≤ v) by omega)]
    by_cases e : T + tk = v
    · rw [if_pos e, if_pos (show T + tk = v ∧ T + 1 ≤ v by omega)]; omega
    · rw [if_neg e, if_neg (show ¬ (T + tk = v ∧ T + 1 ≤ v) by omega)]; omega
  · rw [cnt4_up hq, a6, if_pos hs, if_neg hf, if_neg (show ¬ T + tk = -1 by omega), if_pos (show T + 1 ≤ T + tk by omega)]; omega
theorem sp_slot {t : Int} (ht : 0 ≤ t ∧ t < 12) {r : Mem} {q0 : Nat} (hq : q0 < 4) (h1 : r 76 (4 * t + q0) = -1) (h2 : ∀ q : Nat, q < q0 → ¬ r 76 (4 * t + q) = -1) {K196 : Int → Int → Mem → Prop} {post : Mem → Prop} (H : K196 t q0 r) : ∃ n : Nat, wp_X11_leave_176 K196 post n t 0 r := by
  have key : ∀ d q : Nat, q + d = q0 → wp_X11_leave_176 K196 post (d + 1) t q r := by
    intro d
    induction d with
    | zero =>
      intro q hd
      have : q = q0 := by omega
      subst this
      unfold wp_X11_leave_176
      rw [ix4' ht.1 ht.2 (by omega) (by omega)]
      exact ⟨by omega, bt h1 H⟩
    | succ d ih =>
      intro q hd
      unfold wp_X11_leave_176
      rw [ix4' ht.1 ht.2 (by omega) (by omega), i1 q (by omega)]
      exact ⟨by omega, bf (h2 q (by omega)) (ih (q + 1) (by omega))⟩
  exact ⟨q0 + 1, key q0 0 (by omega)⟩
def cN (c : Mem) (t T k : Int) : Mem := mset (mset (mset (mset c 22 t (w32 (c 22 t + 1))) 23 t (w32 (c 23 t + k))) 26 t (c 25 t)) 25 t T
theorem sp_note {t T k : Int} (ht : 0 ≤ t ∧ t < 12) {c : Mem} {post : Mem → Prop} (H : post (cN c t T k)) : wp_X8_noteLeaving t T k c post := by
  unfold wp_X8_noteLeaving
  refine ⟨ht, ht, eqm ⟨ht, ht, eqm ⟨ht, ht, eqm ⟨ht, eqm ?_⟩⟩⟩⟩
  unfold cN at H
  rw [mset_r (show ¬ (23 : Int) = 22 by decide), mset_r (show ¬ (25 : Int) = 23 by decide), mset_r (show ¬ (25 : Int) = 22 by decide)]
  exact H
theorem cN_o {c : Mem} {t T k x i : Int} (h : ¬ ((x = 22 ∨ x = 23 ∨ x = 25 ∨ x = 26) ∧ i = t)) : cN c t T k x i = c x i := by
  unfold cN
  rw [mset_ne (by omega), mset_ne (by omega), mset_ne (by omega), mset_ne (by omega)]
theorem cN_t (c : Mem) (t T k : Int) : cN c t T k 22 t = w32 (c 22 t + 1) ∧ cN c t T k 23 t = w32 (c 23 t + k) ∧ cN c t T k 25 t = T ∧ cN c t T k 26 t = c 25 t := by
  unfold cN
  refine ⟨?_, ?_, mset_same _ _ _ _, ?_⟩
  · rw [mset_ne (by omega), mset_ne (by omega), mset_ne (by omega), mset_same]
  · rw [mset_ne (by omega), mset_ne (by omega), mset_same]
  · rw [mset_ne (by omega), mset_same]
def rN (r : Mem) (t q x : Int) : Mem := mset (mset r 75 (3 * t) (w32 (r 75 (3 * t) + 1))) 76 (4 * t + q) x
/-- behind the taking: all that is noted -/
theorem dy_note {m : Mem} {T t : Int} (ht : 0 ≤ t ∧ t < m 13 0) (hT : 0 ≤ T ∧ T < 2000) (htk : 1 ≤ m 18 t ∧ m 18 t ≤ 48) (hdue : T % 24 = m 21 t) {c0 r0 : Mem} (h0 : Dy m T (T + 1) c0 r0) (hll : c0 25 t < T) {q0 : Nat} (hq : q0 < 4) (hs : r0 76 (4 * t + q0) = -1) {k : Int} {c r : Mem} (hC : CS m c) (hc : c 28 0 = T) (h : TK m T t (rset (r0 76) (4 * t + q0) (T + m 18 t)) c0 r0 k c r) : Dy m T (T + 1) (cN c t T k) (rN r t q0 (T + m 18 t)) := by
  obtain ⟨d1, d2, d3, d4, d5, d6⟩ := h0
  obtain ⟨a1, a2, a3, a4, a5, a6, a7⟩ := h
  have hN := cN_t c t T k
  have o : ∀ x i : Int, ¬ ((x = 75 ∧ i = 3 * t) ∨ (x = 76 ∧ i = 4 * t + q0)) → rN r t q0 (T + m 18 t) x i = r x i := fun x i hx => by
    unfold rN; rw [mset_ne (by omega), mset_ne (by omega)]
  refine ⟨fun x i hx => by rw [cN_o (by omega)]; exact hC x i hx, by rw [cN_o (by omega)]; exact hc, fun x i x0 hx => by rw [o x i (by omega)]; exact a2 x i x0 hx, by rw [o 67 18 (by omega)]; exact a3, fun i i0 i1 => ?_, fun i i0 i1 => ?_⟩
  · by_cases e : i = t
    · subst e
      obtain ⟨⟨e1, e2, e3, e4⟩, e5⟩ := d5 i i0 i1
      refine ⟨⟨?_, ?_, ?_, ?_⟩, ?_⟩
      · rw [hN.1, a1 22 i (by decide) (by decide), ← e1]
        unfold rN; rw [mset_ne (by omega), mset_same, a5 _ (by omega)]
      · rw [hN.2.1, o _ _ (by omega), a6, a1 23 i (by decide) (by decide), e2]
      · rw [cN_o (by omega), o _ _ (by omega), a5 _ (by omega), a1 24 i (by decide) (by decide)]; exact e3
      · rw [hN.2.1]; exact w32_r _
      · rw [hN.2.2.1, hN.2.2.2, a1 25 i (by decide) (by decide)]
        have := run_leave e5 hT.1 hdue hll htk (q0 := q0) (by omega) hs
        have ef : (fun q => rN r i q0 (T + m 18 i) 76 (4 * i + q)) = up4 (fun q => r0 76 (4 * i + q)) q0 (T + m 18 i) := by
          funext q
          unfold up4 rN
          by_cases z : q = q0
          · rw [if_pos z, z, mset_same]
          · rw [if_neg z, mset_ne (by omega), mset_ne (by omega), a4 76 _ (Or.inr rfl)]
        rw [ef]; exact this
    · obtain ⟨⟨e1, e2, e3, e4⟩, e5⟩ := d5 i i0 i1
      have ef : (fun q : Int => rN r t q0 (T + m 18 t) 76 (4 * i + q)) 0 = r0 76 (4 * i + 0) := by
        show rN r t q0 (T + m 18 t) 76 (4 * i + 0) = _
        rw [o _ _ (by omega), a4 76 _ (Or.inr rfl)]
      have ef1 : rN r t q0 (T + m 18 t) 76 (4 * i + 1) = r0 76 (4 * i + 1) := by rw [o _ _ (by omega), a4 76 _ (Or.inr rfl)]
      have ef2 : rN r t q0 (T + m 18 t) 76 (4 * i + 2) = r0 76 (4 * i + 2) := by rw [o _ _ (by omega), a4 76 _ (Or.inr rfl)]
      have ef3 : rN r t q0 (T + m 18 t) 76 (4 * i + 3) = r0 76 (4 * i + 3) := by rw [o _ _ (by omega), a4 76 _ (Or.inr rfl)]
      refine ⟨⟨?_, ?_, ?_, ?_⟩, ?_⟩
      · rw [cN_o (by omega), o _ _ (by omega), a5 _ (by omega), a1 22 i (by decide) (by decide)]; exact e1
      · rw [cN_o (by omega), o _ _ (by omega), a5 _ (by omega), a1 23 i (by decide) (by decide)]; exact e2
      · rw [cN_o (by omega), o _ _ (by omega), a5 _ (by omega), a1 24 i (by decide) (by decide)]; exact e3
      · rw [cN_o (by omega), a1 23 i (by decide) (by decide)]; exact e4
      · rw [cN_o (by omega), cN_o (by omega), a1 25 i (by decide) (by decide), a1 26 i (by decide) (by decide)]
        obtain ⟨u1, u2, u3, u4, u5, u6⟩ := e5
        have ec : ∀ v : Int, cnt4 (fun q => rN r t q0 (T + m 18 t) 76 (4 * i + q)) v = cnt4 (fun q => r0 76 (4 * i + q)) v := fun v => by
          unfold cnt4
          show (if rN r t q0 (T + m 18 t) 76 (4 * i + 0) = v then (1 : Int) else 0) + (if rN r t q0 (T + m 18 t) 76 (4 * i + 1) = v then 1 else 0) + (if rN r t q0 (T + m 18 t) 76 (4 * i + 2) = v then 1 else 0) + (if rN r t q0 (T + m 18 t) 76 (4 * i + 3) = v then 1 else 0) = _
          have ef0 : rN r t q0 (T + m 18 t) 76 (4 * i + 0) = r0 76 (4 * i + 0) := ef
          rw [ef0, ef1, ef2, ef3]
        exact ⟨u1, u2, u3, u4, fun v hv => by rw [ec v]; exact u5 v hv, by rw [ec]; exact u6⟩
  · have hi := a7 i i0 i1
    unfold WgE RWag at hi ⊢
    have r76 : rN r t q0 (T + m 18 t) 76 = rset (r0 76) (4 * t + q0) (T + m 18 t) := by
      funext j
      unfold rN rset
      by_cases z : j = 4 * t + q0
      · rw [if_pos z, z, mset_same]
      · rw [if_neg z, mset_ne (by omega), mset_ne (by omega), a4 76 _ (Or.inr rfl)]
    rw [o 77 _ (by omega), o 77 _ (by omega), o 77 _ (by omega), o 77 _ (by omega), o 77 _ (by omega), o 77 _ (by omega), cN_o (x := 31) (by omega), cN_o (x := 33) (by omega), cN_o (x := 34) (by omega), cN_o (x := 35) (by omega), cN_o (x := 36) (by omega), r76]
    exact hi
