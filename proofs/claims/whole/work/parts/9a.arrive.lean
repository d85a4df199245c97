/-! an hour: what comes in, the reference's loops; both sides -/
def inS (T s : Int) : Int := if s = T then -1 else s
theorem inS_1 {T s v : Int} (h1 : ¬ v = -1) (h2 : ¬ v = T) : (if inS T s = v then (1 : Int) else 0) = if s = v then 1 else 0 := by
  unfold inS
  by_cases e : s = T
  · rw [if_pos e, if_neg (by omega), if_neg (by omega)]
  · rw [if_neg e]
theorem inS_2 {T s : Int} (hT : 0 ≤ T) : (if inS T s = T then (1 : Int) else 0) = 0 := by
  unfold inS
  by_cases e : s = T
  · rw [if_pos e, if_neg (by omega)]
  · rw [if_neg e, if_neg e]
theorem inS_3 {T s : Int} (hT : 0 ≤ T) : (if inS T s = -1 then (1 : Int) else 0) = (if s = -1 then 1 else 0) + (if s = T then 1 else 0) := by
  unfold inS
  by_cases e : s = T
  · rw [if_pos e, if_pos rfl, if_pos e, if_neg (by omega)]; rfl
  · rw [if_neg e, if_neg e]; omega
theorem run_in {T hr tk ll lb : Int} {s s' : Int → Int} (h : RRun T hr tk ll lb s) (hT : 0 ≤ T) (hs : ∀ q : Int, 0 ≤ q → q < 4 → s' q = inS T (s q)) : RRun (T + 1) hr tk ll lb s' := by
  obtain ⟨a1, a2, a3, a4, a5, a6⟩ := h
  have e0 := hs 0 (by decide) (by decide)
  have e1 := hs 1 (by decide) (by decide)
  have e2 := hs 2 (by decide) (by decide)
  have e3 := hs 3 (by decide) (by decide)
  refine ⟨by omega, a2, a3, a4, fun v hv => ?_, ?_⟩
  · by_cases e : v = T
    · subst e
      unfold cnt4
      rw [e0, e1, e2, e3, inS_2 hT, inS_2 hT, inS_2 hT, inS_2 hT, if_neg (by omega), if_neg (by omega)]
      rfl
    · have := a5 v hv
      unfold cnt4 at this ⊢
      rw [e0, e1, e2, e3, inS_1 hv e, inS_1 hv e, inS_1 hv e, inS_1 hv e, this]
      have c1 : ∀ x : Int, (x + tk = v ∧ T ≤ v) ↔ (x + tk = v ∧ T + 1 ≤ v) := fun x => by omega
      simp only [c1]
  · have h5 := a5 T (by omega)
    unfold cnt4 at a6 h5 ⊢
    rw [e0, e1, e2, e3, inS_3 hT, inS_3 hT, inS_3 hT, inS_3 hT]
    have g : ∀ x : Int, (if T ≤ x + tk then (1 : Int) else 0) = (if T + 1 ≤ x + tk then 1 else 0) + (if x + tk = T ∧ T ≤ T then 1 else 0) := fun x => by
      by_cases z : T + 1 ≤ x + tk
      · rw [if_pos z, if_pos (by omega), if_neg (by omega)]; rfl
      · by_cases y : x + tk = T
        · rw [if_neg z, if_pos (by omega), if_pos ⟨y, Int.le_refl _⟩]; rfl
        · rw [if_neg z, if_neg (by omega), if_neg (fun w => y w.1)]; rfl
    rw [g ll, g lb] at a6
    omega
def AInv (m : Mem) (T : Int) (c c' r0 : Mem) (t q : Nat) (r : Mem) : Prop := MS m r ∧ r 67 18 = T ∧ (∀ x i : Int, (x < 67 ∨ x = 75) → r x i = r0 x i) ∧ (∀ i : Int, 0 ≤ i → i < 4 * (t : Int) + q → r 76 i = inS T (r0 76 i)) ∧ (∀ i : Int, 4 * (t : Int) + q ≤ i → r 76 i = r0 76 i) ∧ ∀ i : Int, 0 ≤ i → i < m 28 4 → (WgE m c' r i ∧ ccond T c i) ∨ (WgE m c r i ∧ (ccond T c i → (t : Int) ≤ c 33 i ∧ (c 33 i = t → ∀ p : Nat, p < q → ¬ r0 76 (4 * (t : Int) + p) = T)))
theorem aq_b {t q : Nat} (h : (t : Int) < 12) (hq : q < 4) : (0 ≤ 4 * (t : Int) + q ∧ 4 * (t : Int) + q < 48) ∧ ¬ (-1 : Int) = t ∧ ¬ (4 : Int) ≤ q ∧ (∀ p : Nat, p < q + 1 → ¬ p = q → p < q) ∧ w32 ((q : Int) + 1) = ((q + 1 : Nat) : Int) ∧ w32 (w32 (4 * (t : Int)) + (q : Int)) = 4 * t + q := ⟨by omega, by omega, by omega, fun p h1 h2 => by omega, i1 q (by omega), ix4' (by omega) h (by omega) (by omega)⟩
theorem aq_i {i a : Int} {q : Nat} : (i < a + ((q + 1 : Nat) : Int) → ¬ i = a + q → i < a + q) ∧ (a + ((q + 1 : Nat) : Int) ≤ i → ¬ i = a + q ∧ a + q ≤ i) := ⟨fun h1 h2 => by omega, fun h => by omega⟩
theorem arr_q {m : Mem} (hR : Rel m) {T : Int} (hT : 0 ≤ T ∧ T < 2000) {c c' r0 : Mem} (hci : ∀ i : Int, 0 ≤ i → i < m 28 4 → ciW m T c c' i ∧ c' 35 i = c 35 i) (hW : ∀ i : Int, 0 ≤ i → i < m 28 4 → RWag (m 1 0) (m 13 0) T (c 31) (m 32) (c 33) (c 34) (c 36) (r0 76) i) (t : Nat) (ht : (t : Int) < m 13 0) : ∀ (rem q : Nat) (r : Mem), q + rem = 4 → AInv m T c c' r0 t q r → ∃ r' : Mem, AInv m T c c' r0 t 4 r' ∧ ∀ (K2 : Int → Mem → Prop) (post : Mem → Prop), K2 ((t + 1 : Nat) : Int) r' → wp_X11_anHour_12 K2 post (rem + 1) t q r := by
  have hnt := hR.2.2.2.1.2.2.1
  have ht12 : 0 ≤ (t : Int) ∧ (t : Int) < 12 := by omega
  obtain ⟨⟨u0, -⟩, ⟨v0, v1, -⟩, ⟨-, s2, -⟩, -⟩ := hR.2.2.2.1.2.2.2.2.2.2 t (by omega) ht
  have hbl := (hR.2.2.1.2.2.2.1 (m 14 t) v0 v1).1.2.1
  have hk20 := hR.2.2.1.2.2.1
  have hb20 : 0 ≤ m 14 t ∧ m 14 t < 20 := by omega
  have f5 := hR.2.2.2.2.1
  obtain ⟨nw, hnw⟩ := Int.eq_ofNat_of_zero_le (show 0 ≤ m 28 4 from f5.2.2.2.2.2.2.2.2.1)
  have hnw30 : nw ≤ 30 := by have := f5.2.2.2.2.2.2.2.2.2.1; omega
  have h13 : m 67 13 = nw := by rw [show m 67 13 = m 28 4 from f5.2.2.2.2.2.2.2.1]; exact hnw
  have h15 : m 67 15 = m 28 1 := f5.2.2.2.1
  have hso : 0 ≤ m 28 1 ∧ m 28 1 ≤ 12 := ⟨f5.2.2.2.2.1, f5.2.2.2.2.2.1⟩
  have x6 : w32 (6 * (t : Int)) = 6 * t := ix6 ht12.1 (by omega)
  have h60 : 0 ≤ 6 * (t : Int) ∧ 6 * (t : Int) < 72 := by omega
  clear f5 hk20
  intro rem
  induction rem with
  | zero =>
    intro q r hq hA
    have e : q = 4 := by omega
    subst e
    refine ⟨r, hA, fun K2 post hK => ?_⟩
    unfold wp_X11_anHour_12
    rw [i1 t (by omega)]
    exact bt (by decide) hK
  | succ rem ih =>
    intro q r hq hA
    have hq4 : q < 4 := by omega
    obtain ⟨hb48, hne, hq4', hpq, ei, eq4⟩ := aq_b ht12.2 hq4
    obtain ⟨a1, a2, a3, a4, a5, a6⟩ := id hA
    have es : r 76 (4 * (t : Int) + q) = r0 76 (4 * (t : Int) + q) := a5 _ (Int.le_refl _)
    by_cases hs : r0 76 (4 * (t : Int) + q) = T
    · -- the slot comes in
      have hM1 : MS m (mset r 76 (4 * (t : Int) + q) (-1)) := fun x i x0 hx => by rw [mset_ne (fun z => hx (Or.inr (Or.inl z.1)))]; exact a1 x i x0 hx
      obtain ⟨r1, p1, p2, p3, p4, p5, p6⟩ := come_M hT hso h15 h13 hnw30 (t : Int) nw 0 (mset r 76 (4 * (t : Int) + q) (-1)) (Nat.zero_add _) hM1 (by rw [mset_ne (fun z => absurd z.1 (by decide))]; exact a2)
      have g77 : ∀ j : Int, mset r 76 (4 * (t : Int) + q) (-1) 77 j = r 77 j := fun j => mset_ne (fun z => absurd z.1 (by decide))
      have hA1 : AInv m T c c' r0 t (q + 1) r1 := by
        refine ⟨p1, p2, fun x i hx => by rw [p3 x i (fun z => by rw [z] at hx; exact absurd hx (by decide)), mset_ne (fun z => by rw [z.1] at hx; exact absurd hx (by decide))]; exact a3 x i hx, fun i i0 i1 => ?_, fun i i0 => ?_, fun i i0 i1 => ?_⟩
        · rw [p3 76 i (by decide)]
          by_cases e : i = 4 * (t : Int) + q
          · rw [e, mset_same, hs]; unfold inS; rw [if_pos rfl]
          · rw [mset_ne (fun z => e z.2)]; exact a4 i i0 (aq_i.1 i1 e)
        · have := aq_i.2 i0
          rw [p3 76 i (by decide), mset_ne (fun z => this.1 z.2)]; exact a5 i this.2
        · have hri := p5 i i0 (by rw [← hnw]; exact i1)
          unfold riW rcond at hri
          rw [g77, g77, g77, g77, g77, g77] at hri
          obtain ⟨⟨k3, k5⟩, kn, ky⟩ := hri
          rcases a6 i i0 i1 with ⟨⟨w0, w1, w2, w3, w4, w5⟩, hc⟩ | ⟨⟨w0, w1, w2, w3, w4, w5⟩, ho⟩
          · refine Or.inl ⟨?_, hc⟩
            have h33 := ((hci i i0 i1).1.2 hc).1
            have kk := kn (fun z => hne (h33.symm.trans (w1.symm.trans z.1)))
            exact ⟨by rw [kk.1]; exact w0, by rw [kk.2.1]; exact w1, by rw [kk.2.2.1]; exact w2, by rw [k3]; exact w3, by rw [kk.2.2.2]; exact w4, by rw [k5]; exact w5⟩
          · by_cases z : c 33 i = t ∧ c 34 i = T
            · have hc : ccond T c i := ⟨fun e => hne (e.symm.trans z.1), z.2⟩
              have kk := ky ⟨by rw [w1]; exact z.1, by rw [w2]; exact z.2⟩
              have hw := (hW i i0 i1).2.2.2.2
              have hw2 : c 31 i = -1 ∧ c 36 i = 0 := by
                rcases hw with y | y | y
                · exact absurd (y.2.2.1.symm.trans z.1) hne
                · exact ⟨y.1, y.2.2.2.1⟩
                · exact absurd (y.2.1.symm.trans z.1) hne
              obtain ⟨c33, cy, cn⟩ := (hci i i0 i1).1.2 hc
              have h35 := (hci i i0 i1).2
              rw [z.1] at cy cn
              refine Or.inl ⟨?_, hc⟩
              by_cases g : m 32 i = m 17 t
              · have c1 := cy g
                have k1 := kk.2.1 (by rw [w5]; exact g)
                exact ⟨by rw [k1.1, c1.1, hw2.1], by rw [kk.1, c33], by rw [k1.2.1, c1.2.1, z.2], by rw [k3, h35]; exact w3, by rw [k1.2.2, c1.2.2], by rw [k5]; exact w5⟩
              · have c1 := cn g
                have k1 := kk.2.2 (by rw [w5]; exact g)
                exact ⟨by rw [k1.1, c1.1], by rw [kk.1, c33], by rw [k1.2.1, c1.2.1], by rw [k3, h35]; exact w3, by rw [k1.2.2, c1.2.2, hw2.2], by rw [k5]; exact w5⟩
            · have kk := kn (fun y => z ⟨by rw [← w1]; exact y.1, by rw [← w2]; exact y.2⟩)
              refine Or.inr ⟨⟨by rw [kk.1]; exact w0, by rw [kk.2.1]; exact w1, by rw [kk.2.2.1]; exact w2, by rw [k3]; exact w3, by rw [kk.2.2.2]; exact w4, by rw [k5]; exact w5⟩, fun hc => ⟨(ho hc).1, fun y => absurd ⟨y, hc.2⟩ z⟩⟩
      obtain ⟨r', l1, l2⟩ := ih (q + 1) r1 (by omega) hA1
      refine ⟨r', l1, fun K2 post hK => ?_⟩
      unfold wp_X11_anHour_12
      rw [eq4, es, a2, ei]
      refine bf hq4' ⟨hb48, nf hs ⟨hb48, eqm ?_⟩⟩
      unfold wp_X11_comeIn
      have e74 : mset r 76 (4 * (t : Int) + q) (-1) 74 (6 * (t : Int)) = m 14 t := by rw [ms_r hM1 (by decide) (by decide)]; exact u0
      have e71 : mset r 76 (4 * (t : Int) + q) (-1) 71 (m 14 t) = m 17 t := by rw [ms_r hM1 (by decide) (by decide), s2]; exact hbl
      rw [x6, e74, e71]
      exact ⟨h60, hb20, eqm ⟨nw + 1, p6 _ (l2 K2 post hK)⟩⟩
    · have hA1 : AInv m T c c' r0 t (q + 1) r := by
        refine ⟨a1, a2, a3, fun i i0 i1 => ?_, fun i i0 => a5 i (aq_i.2 i0).2, fun i i0 i1 => ?_⟩
        · by_cases e : i = 4 * (t : Int) + q
          · rw [e, es]; unfold inS; rw [if_neg hs]
          · exact a4 i i0 (aq_i.1 i1 e)
        · rcases a6 i i0 i1 with z | ⟨z1, z2⟩
          · exact Or.inl z
          · refine Or.inr ⟨z1, fun hc => ⟨(z2 hc).1, fun y p hp => ?_⟩⟩
            by_cases e : p = q
            · rw [e]; exact hs
            · exact (z2 hc).2 y p (hpq p hp e)
      obtain ⟨r', l1, l2⟩ := ih (q + 1) r (by omega) hA1
      refine ⟨r', l1, fun K2 post hK => ?_⟩
      unfold wp_X11_anHour_12
      rw [eq4, es, a2, ei]
      exact bf hq4' ⟨hb48, nt hs (l2 K2 post hK)⟩
