/-! the way of a wagon -/
def pc (t : Int) : Int := bit t 0 + bit t 1 + bit t 2 + bit t 3 + bit t 4 + bit t 5 + bit t 6 + bit t 7
theorem pc_le (t : Int) : pc t ≤ 8 := by
  have h0 := bit_01 t 0
  have h1 := bit_01 t 1
  have h2 := bit_01 t 2
  have h3 := bit_01 t 3
  have h4 := bit_01 t 4
  have h5 := bit_01 t 5
  have h6 := bit_01 t 6
  have h7 := bit_01 t 7
  unfold pc
  omega
theorem pc_or {t y : Int} (ht : 0 ≤ t ∧ t < 256) (hy : 0 ≤ y ∧ y < 8) (h : bit t y = 0) : pc (or32 t (shl32 1 y)) = pc t + 1 := by
  have hc : ∀ (a : Fin 256) (b : Fin 8), bit (a.val : Int) (b.val : Int) = 0 → pc (or32 (a.val : Int) (shl32 1 (b.val : Int))) = pc (a.val : Int) + 1 := by decide +kernel
  have := hc ⟨t.toNat, by omega⟩ ⟨y.toNat, by omega⟩
  rw [show ((⟨t.toNat, by omega⟩ : Fin 256).val : Int) = t from Int.toNat_of_nonneg ht.1, show ((⟨y.toNat, by omega⟩ : Fin 8).val : Int) = y from Int.toNat_of_nonneg hy.1] at this
  exact this h
theorem pc_8 {t y : Int} (hy : 0 ≤ y ∧ y < 8) (h : pc t = 8) : ¬ bit t y = 0 := by
  have h0 := bit_01 t 0
  have h1 := bit_01 t 1
  have h2 := bit_01 t 2
  have h3 := bit_01 t 3
  have h4 := bit_01 t 4
  have h5 := bit_01 t 5
  have h6 := bit_01 t 6
  have h7 := bit_01 t 7
  unfold pc at h
  rcases (show y = 0 ∨ y = 1 ∨ y = 2 ∨ y = 3 ∨ y = 4 ∨ y = 5 ∨ y = 6 ∨ y = 7 by omega) with rfl | rfl | rfl | rfl | rfl | rfl | rfl | rfl <;> omega
theorem shl_1 {a : Int} (ha : 0 ≤ a ∧ a < 8) : 0 ≤ shl32 1 a ∧ shl32 1 a < 256 ∧ pc (shl32 1 a) = 1 ∧ or32 0 (shl32 1 a) = shl32 1 a ∧ bit 0 a = 0 := by
  have hc : ∀ b : Fin 8, 0 ≤ shl32 1 (b.val : Int) ∧ shl32 1 (b.val : Int) < 256 ∧ pc (shl32 1 (b.val : Int)) = 1 ∧ or32 0 (shl32 1 (b.val : Int)) = shl32 1 (b.val : Int) ∧ bit 0 (b.val : Int) = 0 := by decide +kernel
  have := hc ⟨a.toNat, by omega⟩
  rw [show ((⟨a.toNat, by omega⟩ : Fin 8).val : Int) = a from Int.toNat_of_nonneg ha.1] at this
  exact this
/-- where the wagon stands after j trains, and the yards that it has seen -/
def wst (nx : Int → Int) (a : Int) : Nat → Int × Int
  | 0 => (a, shl32 1 a)
  | j + 1 => (nx (wst nx a j).1, or32 (wst nx a j).2 (shl32 1 (nx (wst nx a j).1)))
/-- the j-th train may be taken -/
def hop (nx : Int → Int) (a d : Int) (j : Nat) : Prop := ¬ (wst nx a j).1 = d ∧ ¬ nx (wst nx a j).1 = -1 ∧ bit (wst nx a j).2 (nx (wst nx a j).1) = 0
def hops (nx : Int → Int) (a d : Int) (j : Nat) : Prop := ∀ i : Nat, i < j → hop nx a d i
def Come (nx : Int → Int) (a d : Int) (L : Nat) : Prop := hops nx a d L ∧ (wst nx a L).1 = d
def Fail (nx : Int → Int) (a d : Int) (L : Nat) : Prop := hops nx a d L ∧ ¬ (wst nx a L).1 = d ∧ (nx (wst nx a L).1 = -1 ∨ ¬ bit (wst nx a L).2 (nx (wst nx a L).1) = 0)
theorem come_u {nx : Int → Int} {a d : Int} {k l : Nat} (h : Come nx a d k) (g : Come nx a d l) : k = l := by
  rcases Nat.lt_trichotomy k l with z | z | z
  · exact absurd h.2 (g.1 k z).1
  · exact z
  · exact absurd g.2 (h.1 l z).1
theorem come_fail {nx : Int → Int} {a d : Int} {k l : Nat} (h : Come nx a d k) (g : Fail nx a d l) : False := by
  rcases Nat.lt_trichotomy k l with z | z | z
  · exact (g.1 k z).1 h.2
  · subst z; exact g.2.1 h.2
  · have := h.1 l z
    exact g.2.2.elim this.2.1 (fun w => w this.2.2)
theorem hops_ok {nx : Int → Int} {a d n : Int} (ha : 0 ≤ a ∧ a < n) (hn : n ≤ 8) (hx : ∀ y : Int, 0 ≤ y → y < n → nx y = -1 ∨ (0 ≤ nx y ∧ nx y < n)) : ∀ j : Nat, hops nx a d j → (0 ≤ (wst nx a j).1 ∧ (wst nx a j).1 < n) ∧ (0 ≤ (wst nx a j).2 ∧ (wst nx a j).2 < 256) ∧ pc (wst nx a j).2 = j + 1
  | 0, _ => by
    have := shl_1 (a := a) (by omega)
    unfold wst
    exact ⟨ha, ⟨this.1, this.2.1⟩, by rw [this.2.2.1]; rfl⟩
  | j + 1, h => by
    have ih := hops_ok ha hn hx j (fun i hi => h i (by omega))
    have hj := h j (by omega)
    have hy := (hx _ ih.1.1 ih.1.2).resolve_left hj.2.1
    unfold wst
    dsimp only
    refine ⟨hy, or32_lt ih.2.1 (by omega), ?_⟩
    rw [pc_or ih.2.1 (by omega) hj.2.2, ih.2.2]
    omega
theorem sp_follow {nx : Int → Int} {a d n v : Int} {m : Mem} {post : Int → Mem → Prop} (ha : 0 ≤ a ∧ a < n) (hd : 0 ≤ d ∧ d < n) (hn : n ≤ 8) (hv : ¬ v = 12 ∧ ¬ v = 6 ∧ alen 67 v = 20)
    (hx : ∀ y : Int, 0 ≤ y → y < n → (m 11 (8 * y + d) = -1 ∧ nx y = -1) ∨ (0 ≤ m 11 (8 * y + d) ∧ m 11 (8 * y + d) < 20 ∧ nx y = m v (m 11 (8 * y + d)) ∧ 0 ≤ nx y ∧ nx y < n))
    (h1 : ∀ (L : Nat) (m' : Mem), L ≤ 7 → Come nx a d L → m' 6 7 = L + 1 → (∀ j : Nat, j ≤ L → m' 12 j = (wst nx a j).1) → (∀ c i : Int, ¬ (c = 12 ∨ (c = 6 ∧ i = 7)) → m' c i = m c i) → post 1 m')
    (h0 : ∀ (L : Nat) (m' : Mem), Fail nx a d L → (∀ c i : Int, ¬ (c = 12 ∨ (c = 6 ∧ i = 7)) → m' c i = m c i) → post 0 m') : wp_X0_follow a d v m post := by
  have hx' : ∀ y : Int, 0 ≤ y → y < n → nx y = -1 ∨ (0 ≤ nx y ∧ nx y < n) := fun y y1 y2 => (hx y y1 y2).elim (fun z => Or.inl z.2) (fun z => Or.inr z.2.2.2)
  have key : ∀ (k j : Nat) (m1 : Mem), j + k = 7 → hops nx a d j → m1 6 7 = j + 1 → (∀ i : Nat, i ≤ j → m1 12 i = (wst nx a i).1) → (∀ c i : Int, ¬ (c = 12 ∨ (c = 6 ∧ i = 7)) → m1 c i = m c i) → wp_X0_follow_23 (fun v2_5 v5_5 m_5 => wp_X0_follow_108 v2_5 v5_5 m_5 post) post (k + 1) d v (wst nx a j).2 (wst nx a j).1 (j + 1) m1 := by
    intro k
    induction k with
    | zero =>
      intro j m1 hk q1 q2 q3 q4
      have ho := hops_ok ha hn hx' j q1
      unfold wp_X0_follow_23 wp_X0_follow_108
      refine bt (by omega) ⟨fun z => h0 j m1 ⟨q1, z, ?_⟩ q4, fun z => h1 j m1 (by omega) ⟨q1, z⟩ q2 q3 q4⟩
      rcases hx' _ ho.1.1 ho.1.2 with w | w
      · exact Or.inl w
      · exact Or.inr (pc_8 (by omega) (by rw [ho.2.2]; omega))
    | succ k ih =>
      intro j m1 hk q1 q2 q3 q4
      have ho := hops_ok ha hn hx' j q1
      unfold wp_X0_follow_23
      refine bf (by omega) ⟨fun z => ?_, fun z => ?_⟩
      · unfold wp_X0_follow_108
        exact nf z (h1 j m1 (by omega) ⟨q1, z⟩ q2 q3 q4)
      · rw [ix8 ho.1.1 (by omega) hd.1 (by omega), q4 11 _ (by omega)]
        refine ⟨by omega, eqm ?_⟩
        rcases hx _ ho.1.1 ho.1.2 with w | w
        · exact nf w.1 (h0 j m1 ⟨q1, z, Or.inl w.2⟩ q4)
        · rw [q4 v _ (by omega), ← w.2.2.1]
          refine nt (by omega) ⟨by omega, eqm ⟨fun b => eqm ⟨by omega, eqm (eqm ?_)⟩, fun b => h0 j m1 ⟨q1, z, Or.inr b⟩ q4⟩⟩
          rw [w32_i (x := (j : Int) + 1 + 1) (by omega), show (j : Int) + 1 + 1 = ((j + 1 : Nat) : Int) + 1 by omega]
          refine ih (j + 1) _ (by omega) (fun i hi => ?_) (by simp only [mset_r, mset_s, rset_at, reduceIte, Int.reduceEq, not_false_eq_true]) (fun i hi => ?_) (fun c i q => by rw [mset_ne (by omega), mset_ne (by omega)]; exact q4 c i q)
          · by_cases e : i = j
            · subst e; exact ⟨z, by omega, b⟩
            · exact q1 i (by omega)
          · simp only [mset_r, mset_s, rset_at, reduceIte, Int.reduceEq, not_false_eq_true]
            by_cases e : i = j + 1
            · subst e; rw [if_pos (by omega)]; rfl
            · rw [if_neg (by omega)]; exact q3 i (by omega)
  unfold wp_X0_follow
  refine eqm (eqm (eqm ⟨8, ?_⟩))
  refine key 7 0 _ (by omega) (fun i hi => by omega) (by simp only [mset_r, mset_s, rset_at, reduceIte, Int.reduceEq, not_false_eq_true]; rfl) (fun i hi => ?_) (fun c i q => by rw [mset_ne (by omega), mset_ne (by omega)])
  rw [show i = 0 by omega]
  simp only [mset_r, mset_s, rset_at, reduceIte, Int.reduceEq, not_false_eq_true]
  rfl
theorem sp_walk {nx : Int → Int} {a d n : Int} {m : Mem} {post : Int → Mem → Prop} (ha : 0 ≤ a ∧ a < n) (hn : n ≤ 8) (hw : 0 ≤ m 67 4 ∧ m 67 4 ≤ 20)
    (hx : ∀ y : Int, 0 ≤ y → y < n → (pick (m 70) (m 72) (m 73) y d (m 67 4).toNat = -1 ∧ nx y = -1) ∨ (0 ≤ pick (m 70) (m 72) (m 73) y d (m 67 4).toNat ∧ pick (m 70) (m 72) (m 73) y d (m 67 4).toNat < 20 ∧ nx y = m 88 (pick (m 70) (m 72) (m 73) y d (m 67 4).toNat) ∧ 0 ≤ nx y ∧ nx y < n))
    (h1 : ∀ (L : Nat) (m' : Mem), L ≤ 7 → Come nx a d L → m' 67 38 = L + 1 → (∀ j : Nat, j ≤ L → m' 87 j = (wst nx a j).1) → (∀ c i : Int, ¬ (c = 87 ∨ (c = 67 ∧ i = 38)) → m' c i = m c i) → post 1 m')
    (h0 : ∀ (L : Nat) (m' : Mem), Fail nx a d L → (∀ c i : Int, ¬ (c = 87 ∨ (c = 67 ∧ i = 38)) → m' c i = m c i) → post 0 m') : wp_X11_walk a d m post := by
  have hx' : ∀ y : Int, 0 ≤ y → y < n → nx y = -1 ∨ (0 ≤ nx y ∧ nx y < n) := fun y y1 y2 => (hx y y1 y2).elim (fun z => Or.inl z.2) (fun z => Or.inr z.2.2.2)
  have key : ∀ (k j : Nat) (pm : Int) (m1 : Mem), j + k = 8 → hops nx a d j → bit pm (wst nx a j).1 = 0 → or32 pm (shl32 1 (wst nx a j).1) = (wst nx a j).2 → m1 67 38 = j → (∀ i : Nat, i < j → m1 87 i = (wst nx a i).1) → (∀ c i : Int, ¬ (c = 87 ∨ (c = 67 ∧ i = 38)) → m1 c i = m c i) → wp_X11_walk_10 post (k + 1) d pm (wst nx a j).1 m1 := by
    intro k
    induction k with
    | zero =>
      intro j pm m1 hk q1 qb qo q2 q3 q4
      have ho := hops_ok ha hn hx' j q1
      have := pc_le (wst nx a j).2
      omega
    | succ k ih =>
      intro j pm m1 hk q1 qb qo q2 q3 q4
      have ho := hops_ok ha hn hx' j q1
      unfold wp_X11_walk_10
      refine nt (by unfold bit at qb; omega) (eqm ⟨by omega, eqm (eqm ?_)⟩)
      rw [qo]
      generalize hm2 : mset (mset m1 87 (m1 67 38) (wst nx a j).1) 67 38 (w32 (mset m1 87 (m1 67 38) (wst nx a j).1 67 38 + 1)) = m2
      have e38 : m2 67 38 = (j : Int) + 1 := by rw [← hm2]; simp only [mset_r, mset_s, rset_at, reduceIte, Int.reduceEq, not_false_eq_true]; rw [q2, w32_i (by omega)]
      have e87 : ∀ i : Nat, i ≤ j → m2 87 i = (wst nx a i).1 := fun i hi => by
        rw [← hm2]; simp only [mset_r, mset_s, rset_at, reduceIte, Int.reduceEq, not_false_eq_true]
        rw [q2]
        by_cases e : i = j
        · rw [if_pos (by omega), e]
        · rw [if_neg (by omega)]; exact q3 i (by omega)
      have eo : ∀ c i : Int, ¬ (c = 87 ∨ (c = 67 ∧ i = 38)) → m2 c i = m c i := fun c i q => by
        rw [← hm2, mset_ne (by omega), mset_ne (by omega)]; exact q4 c i q
      clear hm2
      refine ⟨fun z => ?_, fun z => h1 j m2 (by omega) ⟨q1, z⟩ e38 e87 eo⟩
      have r70 : m2 70 = m 70 := funext fun i => eo 70 i (by omega)
      have r72 : m2 72 = m 72 := funext fun i => eo 72 i (by omega)
      have r73 : m2 73 = m 73 := funext fun i => eo 73 i (by omega)
      have r4 : m2 67 4 = m 67 4 := eo 67 4 (by omega)
      refine sp_goesOf (by omega) ?_
      rw [r70, r72, r73, r4]
      rcases hx _ ho.1.1 ho.1.2 with w | w
      · exact nf w.1 (h0 j m2 ⟨q1, z, Or.inl w.2⟩ eo)
      · rw [eo 88 _ (by omega), ← w.2.2.1]
        refine nt (by omega) ⟨by omega, eqm ?_⟩
        by_cases b : bit (wst nx a j).2 (nx (wst nx a j).1) = 0
        · refine ih (j + 1) (wst nx a j).2 m2 (by omega) (fun i hi => ?_) b rfl (by omega) (fun i hi => e87 i (by omega)) eo
          by_cases e : i = j
          · subst e; exact ⟨z, by omega, b⟩
          · exact q1 i (by omega)
        · unfold wp_X11_walk_10
          exact nf ((bit_01 _ _).resolve_left b) (h0 j m2 ⟨q1, z, Or.inr b⟩ eo)
  unfold wp_X11_walk
  have hs := shl_1 (a := a) (by omega)
  exact eqm ⟨9, key 8 0 0 _ (by omega) (fun i hi => by omega) hs.2.2.2.2 hs.2.2.2.1 (by simp only [mset_r, mset_s, rset_at, reduceIte, Int.reduceEq, not_false_eq_true]; rfl) (fun i hi => by omega) (fun c i q => mset_ne (by omega))⟩
