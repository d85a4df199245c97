/-! way, lost -/
theorem bit_or {t y : Int} (ht : 0 ≤ t ∧ t < 256) (hy : 0 ≤ y ∧ y < 8) : bit (or32 t (shl32 1 y)) y = 1 := by
  have hc : ∀ (a : Fin 256) (b : Fin 8), bit (or32 (a.val : Int) (shl32 1 (b.val : Int))) (b.val : Int) = 1 := by decide +kernel
  have := hc ⟨t.toNat, by omega⟩ ⟨y.toNat, by omega⟩
  rw [show ((⟨t.toNat, by omega⟩ : Fin 256).val : Int) = t from Int.toNat_of_nonneg ht.1, show ((⟨y.toNat, by omega⟩ : Fin 8).val : Int) = y from Int.toNat_of_nonneg hy.1] at this
  exact this
theorem wst_here {nx : Int → Int} {a d n : Int} (ha : 0 ≤ a ∧ a < n) (hn : n ≤ 8) (hx : ∀ y : Int, 0 ≤ y → y < n → nx y = -1 ∨ (0 ≤ nx y ∧ nx y < n)) : ∀ j : Nat, hops nx a d j → bit (wst nx a j).2 (wst nx a j).1 = 1
  | 0, _ => by
    have := bit_or (t := 0) (y := a) (by omega) (by omega)
    rw [(shl_1 (a := a) (by omega)).2.2.2.1] at this
    exact this
  | j + 1, h => by
    have ih := hops_ok ha hn hx j (fun i hi => h i (by omega))
    have ih2 := hops_ok ha hn hx (j + 1) h
    unfold wst at ih2 ⊢
    exact bit_or ih.2.1 (by have := ih2.1; dsimp only at this; omega)
theorem wst_step {nx : Int → Int} {a d n : Int} (ha : 0 ≤ a ∧ a < n) (hn : n ≤ 8) (hx : ∀ y : Int, 0 ≤ y → y < n → nx y = -1 ∨ (0 ≤ nx y ∧ nx y < n)) {j : Nat} (h : hops nx a d (j + 1)) : ¬ (wst nx a j).1 = (wst nx a (j + 1)).1 := by
  intro e
  have h1 := wst_here ha hn hx j (fun i hi => h i (by omega))
  have h2 := (h j (by omega)).2.2
  have e2 : (wst nx a (j + 1)).1 = nx (wst nx a j).1 := rfl
  rw [← e2, ← e] at h2
  omega
def nxr (m : Mem) (d y : Int) : Int := if m 11 (8 * y + d) = -1 then -1 else m 8 (m 11 (8 * y + d))
theorem nx_c {m : Mem} (hR : Rel m) {d : Int} (hd : 0 ≤ d ∧ d < m 1 0) : ∀ y : Int, 0 ≤ y → y < m 1 0 → (m 11 (8 * y + d) = -1 ∧ nxr m d y = -1) ∨ (0 ≤ m 11 (8 * y + d) ∧ m 11 (8 * y + d) < m 6 0 ∧ nxr m d y = m 8 (m 11 (8 * y + d)) ∧ 0 ≤ nxr m d y ∧ nxr m d y < m 1 0) := by
  intro y y1 y2
  obtain ⟨b1, b2, b3, b4, b5⟩ := hR.2.2.1
  have hn := hR.n
  have hp := pick_r (m 70) (m 72) (m 73) y d (m 6 0).toNat
  rw [← b5 y d y1 (by omega) hd.1 (by omega)] at hp
  unfold nxr
  rcases hp with z | z
  · rw [if_pos z]; exact Or.inl ⟨z, rfl⟩
  · rw [if_neg (by omega)]
    have := (b4 (m 11 (8 * y + d)) (by omega) (by omega)).2
    exact Or.inr ⟨z.1, by omega, rfl, this.2.2.1, this.2.2.2.1⟩
theorem nx_x {m : Mem} (hR : Rel m) {d : Int} (hd : 0 ≤ d ∧ d < m 1 0) : ∀ y : Int, 0 ≤ y → y < m 1 0 → nxr m d y = -1 ∨ (0 ≤ nxr m d y ∧ nxr m d y < m 1 0) := fun y y1 y2 => (nx_c hR hd y y1 y2).elim (fun z => Or.inl z.2) (fun z => Or.inr z.2.2.2)
theorem sp_C_follow {m m1 : Mem} {a d : Int} {post : Int → Mem → Prop} (hR : Rel m) (hf : ∀ c i : Int, ¬ Scr c i → m1 c i = m c i) (ha : 0 ≤ a ∧ a < m 1 0) (hd : 0 ≤ d ∧ d < m 1 0)
    (h1 : ∀ (L : Nat) (m' : Mem), L ≤ 7 → Come (nxr m d) a d L → m' 6 7 = L + 1 → (∀ j : Nat, j ≤ L → m' 12 j = (wst (nxr m d) a j).1) → (∀ c i : Int, ¬ Scr c i → m' c i = m c i) → post 1 m')
    (h0 : ∀ (L : Nat) (m' : Mem), Fail (nxr m d) a d L → (∀ c i : Int, ¬ Scr c i → m' c i = m c i) → post 0 m') : wp_X0_follow a d 8 m1 post := by
  have hn := hR.n
  have hk := hR.2.2.1.2.2.1
  have fr : ∀ m' : Mem, (∀ c i : Int, ¬ (c = 12 ∨ (c = 6 ∧ i = 7)) → m' c i = m1 c i) → ∀ c i : Int, ¬ Scr c i → m' c i = m c i := fun m' h c i q => by
    rw [h c i (by unfold Scr at q; omega), hf c i q]
  refine sp_follow (nx := nxr m d) ha hd hn.2.2 ⟨by decide, by decide, rfl⟩ (fun y y1 y2 => ?_) (fun L m' e1 e2 e3 e4 e5 => h1 L m' e1 e2 e3 e4 (fr m' e5)) (fun L m' e1 e2 => h0 L m' e1 (fr m' e2))
  have e11 : m1 11 (8 * y + d) = m 11 (8 * y + d) := hf 11 _ (by unfold Scr; omega)
  rw [e11]
  rcases nx_c hR hd y y1 y2 with z | z
  · exact Or.inl z
  · refine Or.inr ⟨z.1, by omega, ?_, z.2.2.2⟩
    rw [hf 8 _ (by unfold Scr; omega)]
    exact z.2.2.1
theorem sp_M_walk {m m1 : Mem} {a d : Int} {post : Int → Mem → Prop} (hR : Rel m) (hf : ∀ c i : Int, ¬ Scr c i → m1 c i = m c i) (h88 : ∀ i : Int, 0 ≤ i → i < m 6 0 → m1 88 i = m 8 i) (ha : 0 ≤ a ∧ a < m 1 0) (hd : 0 ≤ d ∧ d < m 1 0)
    (h1 : ∀ (L : Nat) (m' : Mem), L ≤ 7 → Come (nxr m d) a d L → m' 67 38 = L + 1 → (∀ j : Nat, j ≤ L → m' 87 j = (wst (nxr m d) a j).1) → (∀ c i : Int, ¬ Scr c i → m' c i = m c i) → (∀ i : Int, 0 ≤ i → i < m 6 0 → m' 88 i = m 8 i) → post 1 m')
    (h0 : ∀ (L : Nat) (m' : Mem), Fail (nxr m d) a d L → (∀ c i : Int, ¬ Scr c i → m' c i = m c i) → (∀ i : Int, 0 ≤ i → i < m 6 0 → m' 88 i = m 8 i) → post 0 m') : wp_X11_walk a d m1 post := by
  have hn := hR.n
  obtain ⟨b1, b2, b3, b4, b5⟩ := hR.2.2.1
  have fr : ∀ m' : Mem, (∀ c i : Int, ¬ (c = 87 ∨ (c = 67 ∧ i = 38)) → m' c i = m1 c i) → ∀ c i : Int, ¬ Scr c i → m' c i = m c i := fun m' h c i q => by
    rw [h c i (by unfold Scr at q; omega), hf c i q]
  have f8 : ∀ m' : Mem, (∀ c i : Int, ¬ (c = 87 ∨ (c = 67 ∧ i = 38)) → m' c i = m1 c i) → (∀ i : Int, 0 ≤ i → i < m 6 0 → m' 88 i = m 8 i) := fun m' h i i1 i2 => by rw [h 88 i (by omega)]; exact h88 i i1 i2
  have r4 : m1 67 4 = m 6 0 := by rw [hf 67 4 (by unfold Scr; omega)]; exact b1
  have r70 : m1 70 = m 70 := funext fun i => hf 70 i (by unfold Scr; omega)
  have r72 : m1 72 = m 72 := funext fun i => hf 72 i (by unfold Scr; omega)
  have r73 : m1 73 = m 73 := funext fun i => hf 73 i (by unfold Scr; omega)
  refine sp_walk (nx := nxr m d) ha hn.2.2 (by omega) (fun y y1 y2 => ?_) (fun L m' e1 e2 e3 e4 e5 => h1 L m' e1 e2 e3 e4 (fr m' e5) (f8 m' e5)) (fun L m' e1 e2 => h0 L m' e1 (fr m' e2) (f8 m' e2))
  rw [r70, r72, r73, r4, ← b5 y d y1 (by omega) hd.1 (by omega)]
  rcases nx_c hR hd y y1 y2 with z | z
  · exact Or.inl z
  · refine Or.inr ⟨z.1, by omega, ?_, z.2.2.2⟩
    rw [h88 _ z.1 z.2.1]
    exact z.2.2.1
theorem sp_M_asMade {m m1 : Mem} {post : Mem → Prop} (hR : Rel m) (hf : ∀ c i : Int, ¬ Scr c i → m1 c i = m c i) (h : ∀ m' : Mem, (∀ c i : Int, ¬ Scr c i → m' c i = m c i) → (∀ i : Int, 0 ≤ i → i < m 6 0 → m' 88 i = m 8 i) → post m') : wp_X11_asMade m1 post := by
  obtain ⟨b1, b2, b3, b4, b5⟩ := hR.2.2.1
  have key : ∀ (k : Nat) (i : Int) (m2 : Mem), i + k = m 6 0 → 0 ≤ i → (∀ c i : Int, ¬ Scr c i → m2 c i = m c i) → (∀ j : Int, 0 ≤ j → j < i → m2 88 j = m 8 j) → wp_X11_asMade_2 post (k + 1) i m2 := by
    intro k
    induction k with
    | zero =>
      intro i m2 hk q0 q1 q2
      have e : m2 67 4 = m 6 0 := by rw [q1 67 4 (by unfold Scr; omega)]; exact b1
      unfold wp_X11_asMade_2
      exact bt (by omega) (h m2 q1 (fun j j1 j2 => q2 j j1 (by omega)))
    | succ k ih =>
      intro i m2 hk q0 q1 q2
      have e : m2 67 4 = m 6 0 := by rw [q1 67 4 (by unfold Scr; omega)]; exact b1
      have e71 : m2 71 i = m 8 i := by rw [q1 71 i (by unfold Scr; omega)]; exact (b4 i q0 (by omega)).1.2.1
      unfold wp_X11_asMade_2
      refine bf (by omega) ⟨by omega, by omega, eqm ?_⟩
      rw [w32_i (by omega), e71]
      refine ih (i + 1) _ (by omega) (by omega) (fun c j q => by rw [mset_ne (by unfold Scr at q; omega)]; exact q1 c j q) (fun j j1 j2 => ?_)
      by_cases hj : j = i
      · rw [hj, mset_same]
      · rw [mset_ne (by omega)]; exact q2 j j1 (by omega)
  exact ⟨(m 6 0).toNat + 1, key (m 6 0).toNat 0 m1 (by omega) (by omega) hf (fun j j1 j2 => by omega)⟩
def sumg (g : Nat → Int) : Nat → Int
  | 0 => 0
  | j + 1 => sumg g j + g j
theorem sumg_r {g : Nat → Int} : ∀ L : Nat, (∀ j : Nat, j < L → 0 ≤ g j ∧ g j ≤ 99) → 0 ≤ sumg g L ∧ sumg g L ≤ 99 * L
  | 0, _ => by unfold sumg; omega
  | L + 1, h => by
    have ih := sumg_r L (fun j hj => h j (by omega))
    have := h L (by omega)
    unfold sumg
    omega
theorem sp_along {p g : Nat → Int} {L : Nat} {m : Mem} {post : Int → Mem → Prop} (hL : L ≤ 7) (e : m 6 7 = L + 1) (hp : ∀ j : Nat, j ≤ L → m 12 j = p j ∧ 0 ≤ p j ∧ p j < 8) (hg : ∀ j : Nat, j < L → m 2 (8 * p j + p (j + 1)) = g j ∧ 0 ≤ g j ∧ g j ≤ 99) (h : post (sumg g L) m) : wp_X10_milesAlongStops m post := by
  have key : ∀ k j : Nat, j + k = L → wp_X10_milesAlongStops_4 post (k + 1) (sumg g j) (j + 1) m := by
    intro k
    induction k with
    | zero => intro j hk; unfold wp_X10_milesAlongStops_4; refine bt (by omega) ?_; rw [show j = L by omega]; exact h
    | succ k ih =>
      intro j hk
      have h1 := hp j (by omega)
      have h2 := hp (j + 1) (by omega)
      have h3 := hg j (by omega)
      have hs := sumg_r (g := g) j (fun i hi => (hg i (by omega)).2)
      unfold wp_X10_milesAlongStops_4
      rw [show w32 ((j : Int) + 1 - 1) = (j : Int) by unfold w32; omega, h1.1, show ((j : Int) + 1) = ((j + 1 : Nat) : Int) by omega, h2.1, ix8 h1.2.1 h1.2.2 h2.2.1 h2.2.2]
      refine bf (by omega) ⟨by omega, by omega, by omega, eqm ?_⟩
      rw [h3.1, w32_i (by omega), w32_i (by omega)]
      exact ih (j + 1) (by omega)
  exact ⟨L + 1, key L 0 (by omega)⟩
theorem sp_91 {p g : Nat → Int} {L : Nat} {m : Mem} {post : Int → Mem → Prop} (hL : L ≤ 7) (e : m 67 38 = L + 1) (hp : ∀ j : Nat, j ≤ L → m 87 j = p j ∧ 0 ≤ p j ∧ p j < 8) (hg : ∀ j : Nat, j < L → m 68 (8 * p j + p (j + 1)) = g j ∧ 0 ≤ g j ∧ g j ≤ 99) (h : post (sumg g L) m) : ∃ n : Nat, wp_X11_way_91 post n 0 1 m := by
  have key : ∀ k j : Nat, j + k = L → wp_X11_way_91 post (k + 1) (sumg g j) (j + 1) m := by
    intro k
    induction k with
    | zero => intro j hk; unfold wp_X11_way_91; refine bt (by omega) ?_; rw [show j = L by omega]; exact h
    | succ k ih =>
      intro j hk
      have h1 := hp j (by omega)
      have h2 := hp (j + 1) (by omega)
      have h3 := hg j (by omega)
      have hs := sumg_r (g := g) j (fun i hi => (hg i (by omega)).2)
      unfold wp_X11_way_91
      rw [show w32 ((j : Int) + 1 - 1) = (j : Int) by unfold w32; omega, h1.1, show ((j : Int) + 1) = ((j + 1 : Nat) : Int) by omega, h2.1, ix8' h1.2.1 h1.2.2 h2.2.1 h2.2.2]
      refine bf (by omega) ⟨by omega, by omega, by omega, eqm ?_⟩
      rw [h3.1, w32_i (by omega), w32_i (by omega)]
      exact ih (j + 1) (by omega)
  exact ⟨L + 1, key L 0 (by omega)⟩
theorem op_way {m : Mem} (hR : Rel m) (a d v : Int) : wp_X10_way a d v m (fun r m1 => wp_X11_way a d v m1 (fun r2 m2 => r = r2 ∧ Rel m2)) := by
  obtain ⟨n1', n2, n3⟩ := hR.n
  have hl := hR.1.2.2.2
  have no1 : ¬ (0 ≤ a ∧ a < m 1 0 ∧ 0 ≤ d ∧ d < m 1 0) → wp_X11_way a d v m (fun r2 m2 => -101 = r2 ∧ Rel m2) := fun q => by
    unfold wp_X11_way
    exact sp_isYard (by omega) (fun x1 x2 => z1 (sp_isYard (by omega) (fun x3 x4 => absurd ⟨x1, by omega, x3, by omega⟩ q) (fun _ => n0 ⟨rfl, hR⟩))) (fun _ => z0 ⟨rfl, hR⟩)
  have no2 : (0 ≤ a ∧ a < m 1 0 ∧ 0 ≤ d ∧ d < m 1 0) → ¬ (v = 0 ∨ v = 1 ∨ (10 ≤ v ∧ v ≤ 18)) → wp_X11_way a d v m (fun r2 m2 => -102 = r2 ∧ Rel m2) := fun w q => by
    unfold wp_X11_way
    exact sp_isYard (by omega) (fun x1 x2 => z1 (sp_isYard (by omega) (fun x3 x4 => n1 (sp_in (fun y1 y2 => by omega) (fun _ => n0 (sp_in (fun y1 y2 => by omega) (fun _ => n0 ⟨rfl, hR⟩))))) (fun z => absurd ⟨by omega, by omega⟩ z))) (fun z => absurd ⟨by omega, by omega⟩ z)
  have yes : (0 ≤ a ∧ a < m 1 0 ∧ 0 ≤ d ∧ d < m 1 0) → (v = 0 ∨ v = 1 ∨ (10 ≤ v ∧ v ≤ 18)) → ∀ (m1 : Mem) (post : Int → Mem → Prop), (∀ c i : Int, ¬ Scr c i → m1 c i = m c i) → wp_X11_way_42 a d v m1 post → wp_X11_way a d v m1 post := fun w q m1 post hf h => by
    have e0 : m1 67 0 = m 1 0 := by rw [hf 67 0 (by unfold Scr; omega)]; exact n1'
    unfold wp_X11_way
    refine sp_isYard (by omega) (fun x1 x2 => z1 (sp_isYard (by omega) (fun x3 x4 => n1 (sp_in (fun y1 y2 => n1 h) (fun z => n0 (sp_in (fun y1 y2 => n1 h) (fun z2 => by omega))))) (fun z => absurd ⟨by omega, by omega⟩ z))) (fun z => absurd ⟨by omega, by omega⟩ z)
  unfold wp_X10_way
  refine sp_X3_has (fun x1 x2 => z1 (sp_X3_has (fun x3 x4 => n1 ?_) (fun z => n0 (no1 (by omega))))) (fun z => z0 (no1 (by omega)))
  have hg : (v = 0 ∨ v = 1 ∨ (10 ≤ v ∧ v ≤ 18)) → wp_X10_way_49 a d v m (fun r m1 => wp_X11_way a d v m1 (fun r2 m2 => r = r2 ∧ Rel m2)) := fun hv => by
    · unfold wp_X10_way_49
      refine sp_C_follow hR (fun _ _ _ => rfl) ⟨x1, x2⟩ ⟨x3, x4⟩ (fun L m1 e1 e2 e3 e4 e5 => n1 ?_) (fun L m1 e1 e2 => n0 ?_)
      · have hok : ∀ j : Nat, j ≤ L → 0 ≤ (wst (nxr m d) a j).1 ∧ (wst (nxr m d) a j).1 < 8 := fun j hj => by
          have := (hops_ok (d := d) ⟨x1, x2⟩ n3 (nx_x hR ⟨x3, x4⟩) j (fun i hi => e2.1 i (by omega))).1
          omega
        have hne : ∀ j : Nat, j < L → ¬ (wst (nxr m d) a j).1 = (wst (nxr m d) a (j + 1)).1 := fun j hj => wst_step (d := d) ⟨x1, x2⟩ n3 (nx_x hR ⟨x3, x4⟩) (fun i hi => e2.1 i (by omega))
        have hg : ∀ j : Nat, j < L → m 68 (8 * (wst (nxr m d) a j).1 + (wst (nxr m d) a (j + 1)).1) = m 2 (8 * (wst (nxr m d) a j).1 + (wst (nxr m d) a (j + 1)).1) ∧ 0 ≤ m 2 (8 * (wst (nxr m d) a j).1 + (wst (nxr m d) a (j + 1)).1) ∧ m 2 (8 * (wst (nxr m d) a j).1 + (wst (nxr m d) a (j + 1)).1) ≤ 99 := fun j hj => by
          have h1 := hok j (by omega)
          have h2 := hok (j + 1) (by omega)
          have := hl _ _ h1.1 h1.2 h2.1 h2.2 (hne j hj)
          omega
        have mm : ∀ (x : Int) , (v = 0 → x = if 2 ≤ (L : Int) + 1 then (L : Int) + 1 - 2 else 0) → (v = 1 → x = sumg (fun j => m 2 (8 * (wst (nxr m d) a j).1 + (wst (nxr m d) a (j + 1)).1)) L) → (10 ≤ v → x = if (L : Int) + 1 ≤ v - 10 then -1 else (wst (nxr m d) a (v - 10).toNat).1) → wp_X11_way a d v m1 (fun r2 m2 => x = r2 ∧ Rel m2) := fun x w0 w1 w2 => by
          refine yes ⟨x1, x2, x3, x4⟩ hv m1 _ e5 ?_
          unfold wp_X11_way_42
          refine sp_M_asMade hR e5 (fun m2 f1 f2 => sp_M_walk hR f1 f2 ⟨x1, x2⟩ ⟨x3, x4⟩ (fun L' m3 g1 g2 g3 g4 g5 g6 => n1 ?_) (fun L' m3 g1 g2 g3 => (come_fail e2 g1).elim))
          have el := come_u g2 e2
          subst el
          have hR3 : Rel m3 := Rel.frame g5 hR
          rw [g3]
          refine ⟨fun v0 => ⟨fun v1 => ?_, fun v1 => ?_⟩, fun v0 => ?_⟩
          · have w2 := w2 (by omega)
            rw [w32_i (x := v - 10) (by omega)]
            refine ⟨fun q => ?_, fun q => ⟨by omega, ?_⟩⟩
            · rw [if_pos q] at w2; exact ⟨w2, hR3⟩
            · rw [if_neg q] at w2
              refine ⟨?_, hR3⟩
              have := g4 (v - 10).toNat (by omega)
              rw [show (((v - 10).toNat : Nat) : Int) = v - 10 by omega] at this
              rw [w2, this]
          · refine sp_91 (p := fun j => (wst (nxr m d) a j).1) (g := fun j => m 2 (8 * (wst (nxr m d) a j).1 + (wst (nxr m d) a (j + 1)).1)) g1 g3 (fun j hj => ⟨g4 j hj, hok j hj⟩) (fun j hj => ?_) ⟨w1 v1, hR3⟩
            have := hg j hj
            rw [g5 68 _ (by unfold Scr; omega)]
            exact this
          · have w0 := w0 v0
            refine ⟨fun q => ?_, fun q => ?_⟩
            · rw [if_pos q] at w0; rw [w32_i (by omega)]; exact ⟨w0, hR3⟩
            · rw [if_neg q] at w0; exact ⟨w0, hR3⟩
        rw [e3]
        refine ⟨fun v0 => ⟨fun v1 => ?_, fun v1 => ?_⟩, fun v0 => ?_⟩
        · rw [w32_i (x := v - 10) (by omega)]
          unfold wp_X0_stopAt
          rw [e3]
          refine bf (by omega) ⟨fun q => ?_, fun q => ⟨by omega, ?_⟩⟩
          · exact mm _ (fun z => absurd z v0) (fun z => absurd z v1) (fun _ => by rw [if_pos q])
          · have := e4 (v - 10).toNat (by omega)
            rw [show (((v - 10).toNat : Nat) : Int) = v - 10 by omega] at this
            exact mm _ (fun z => absurd z v0) (fun z => absurd z v1) (fun _ => by rw [if_neg q, this])
        · refine sp_along (p := fun j => (wst (nxr m d) a j).1) (g := fun j => m 2 (8 * (wst (nxr m d) a j).1 + (wst (nxr m d) a (j + 1)).1)) e1 e3 (fun j hj => ⟨e4 j hj, hok j hj⟩) (fun j hj => ?_) (mm _ (fun z => absurd z v0) (fun _ => rfl) (fun z => by omega))
          have := hg j hj
          rw [e5 2 _ (by unfold Scr; omega)]
          exact ⟨rfl, this.2⟩
        · refine mm _ (fun _ => ?_) (fun z => by omega) (fun z => by omega)
          rw [w32_i (by omega)]
          split <;> split <;> omega
      · refine yes ⟨x1, x2, x3, x4⟩ hv m1 _ e2 ?_
        unfold wp_X11_way_42
        exact sp_M_asMade hR e2 (fun m2 f1 f2 => sp_M_walk hR f1 f2 ⟨x1, x2⟩ ⟨x3, x4⟩ (fun L' m3 g1 g2 g3 g4 g5 g6 => (come_fail g2 e1).elim) (fun L' m3 g1 g2 g3 => n0 ⟨rfl, Rel.frame g2 hR⟩))
  have bd : ¬ (v = 0 ∨ v = 1 ∨ (10 ≤ v ∧ v ≤ 18)) → wp_X11_way a d v m (fun r2 m2 => -102 = r2 ∧ Rel m2) := no2 ⟨x1, x2, x3, x4⟩
  exact ⟨fun q => bd (by omega), fun q => ⟨fun q2 => bd (by omega), fun q2 => ⟨fun q3 => hg (by omega), fun q3 => ⟨fun q4 => hg (by omega), fun q4 => bd (by omega)⟩⟩⟩⟩
def lo (f : Int → Int → Int) (a : Int) : Nat → Int
  | 0 => 0
  | k + 1 => lo f a k + f a k
def los (f : Int → Int → Int) (n : Nat) : Nat → Int
  | 0 => 0
  | k + 1 => los f n k + lo f k n
theorem lo_r {f : Int → Int → Int} (hf : ∀ a b : Int, 0 ≤ f a b ∧ f a b ≤ 1) (a : Int) : ∀ k : Nat, 0 ≤ lo f a k ∧ lo f a k ≤ k
  | 0 => by unfold lo; omega
  | k + 1 => by have := lo_r hf a k; have := hf a k; unfold lo; omega
theorem los_r {f : Int → Int → Int} (hf : ∀ a b : Int, 0 ≤ f a b ∧ f a b ≤ 1) (n : Nat) : ∀ k : Nat, 0 ≤ los f n k ∧ los f n k ≤ k * n
  | 0 => by unfold los; omega
  | k + 1 => by
    have h1 := los_r hf n k
    have h2 := lo_r hf k n
    unfold los
    rw [show ((k + 1 : Nat) : Int) * (n : Int) = (k : Int) * n + n by rw [Int.natCast_add, Int.add_mul]; omega]
    omega
theorem lo_f (m : Mem) : ∃ f : Int → Int → Int, (∀ a b : Int, 0 ≤ f a b ∧ f a b ≤ 1) ∧ (∀ a : Int, f a a = 0) ∧ (∀ (a b : Int) (L : Nat), ¬ a = b → Come (nxr m b) a b L → f a b = 0) ∧ (∀ (a b : Int) (L : Nat), ¬ a = b → Fail (nxr m b) a b L → f a b = 1) := by
  refine ⟨fun a b => if a = b then 0 else @ite Int (∃ L : Nat, Come (nxr m b) a b L) (Classical.propDecidable _) 0 1, fun a b => ?_, fun a => if_pos rfl, fun a b L hn h => ?_, fun a b L hn h => ?_⟩
  · dsimp only
    split
    · omega
    · by_cases h : ∃ L : Nat, Come (nxr m b) a b L
      · rw [if_pos h]; omega
      · rw [if_neg h]; omega
  · dsimp only; rw [if_neg hn, if_pos ⟨L, h⟩]
  · dsimp only; rw [if_neg hn, if_neg (fun z => come_fail z.choose_spec h)]
theorem op_lost {m : Mem} (hR : Rel m) : wp_X10_lost m (fun r m1 => wp_X11_lost m1 (fun r2 m2 => r = r2 ∧ Rel m2)) := by
  obtain ⟨n1', n2, n3⟩ := hR.n
  obtain ⟨f, f1, f2, f3, f4⟩ := lo_f m
  have hN : ∀ k : Nat, (k : Int) ≤ m 1 0 → 0 ≤ los f (m 1 0).toNat k ∧ los f (m 1 0).toNat k ≤ 64 := fun k hk => by
    have := los_r f1 (m 1 0).toNat k
    have h2 : (k : Int) * ((m 1 0).toNat : Int) ≤ 8 * 8 := Int.mul_le_mul (by omega) (by omega) (by omega) (by omega)
    omega
  have mside : ∀ (x : Int) (m1 : Mem), x = los f (m 1 0).toNat (m 1 0).toNat → (∀ c i : Int, ¬ Scr c i → m1 c i = m c i) → wp_X11_lost m1 (fun r2 m2 => x = r2 ∧ Rel m2) := by
    intro x m1 hx hf
    have inner : ∀ (K : Int → Int → Mem → Prop) (post : Int → Mem → Prop) (a : Nat), (a : Int) < m 1 0 → (∀ m' : Mem, (∀ c i : Int, ¬ Scr c i → m' c i = m c i) → (∀ i : Int, 0 ≤ i → i < m 6 0 → m' 88 i = m 8 i) → K (los f (m 1 0).toNat (a + 1)) ((a + 1 : Nat) : Int) m') → ∀ (k b : Nat) (m2 : Mem), b + k = (m 1 0).toNat → (∀ c i : Int, ¬ Scr c i → m2 c i = m c i) → (∀ i : Int, 0 ≤ i → i < m 6 0 → m2 88 i = m 8 i) → wp_X11_lost_18 K post (k + 1) (los f (m 1 0).toNat a + lo f a b) a b m2 := by
      intro K post a ha hK k
      induction k with
      | zero =>
        intro b m2 hb q1 q2
        have e0 : m2 67 0 = m 1 0 := by rw [q1 67 0 (by unfold Scr; omega)]; exact n1'
        unfold wp_X11_lost_18
        refine bt (by omega) ?_
        rw [show w32 ((a : Int) + 1) = ((a + 1 : Nat) : Int) by unfold w32; omega, show b = (m 1 0).toNat by omega]
        exact hK m2 q1 q2
      | succ k ih =>
        intro b m2 hb q1 q2
        have e0 : m2 67 0 = m 1 0 := by rw [q1 67 0 (by unfold Scr; omega)]; exact n1'
        have h1 := hN a (by omega)
        have h2 := lo_r f1 a b
        have h3 := f1 a b
        have nxt : ∀ (y : Int) (m3 : Mem), y = f a b → (∀ c i : Int, ¬ Scr c i → m3 c i = m c i) → (∀ i : Int, 0 ≤ i → i < m 6 0 → m3 88 i = m 8 i) → wp_X11_lost_18 K post (k + 1) (w32 (los f (m 1 0).toNat a + lo f a b + y)) a (w32 ((b : Int) + 1)) m3 := fun y m3 hy g1 g2 => by
          rw [w32_i (by omega), show w32 ((b : Int) + 1) = ((b + 1 : Nat) : Int) by unfold w32; omega, hy]
          have := ih (b + 1) m3 (by omega) g1 g2
          unfold lo at this
          rw [← Int.add_assoc] at this
          exact this
        unfold wp_X11_lost_18
        refine bf (by omega) ⟨fun z => eqm (nxt 0 m2 (by rw [z, f2]) q1 q2), fun z => ?_⟩
        exact sp_M_walk hR q1 q2 (by omega) (by omega) (fun L m3 g1 g2 g3 g4 g5 g6 => z1 (eqm (nxt 0 m3 (f3 _ _ L z g2).symm g5 g6))) (fun L m3 g1 g2 g3 => z0 (eqm (nxt 1 m3 (f4 _ _ L z g1).symm g2 g3)))
    have outer : ∀ (k a : Nat) (m2 : Mem), a + k = (m 1 0).toNat → (∀ c i : Int, ¬ Scr c i → m2 c i = m c i) → (∀ i : Int, 0 ≤ i → i < m 6 0 → m2 88 i = m 8 i) → wp_X11_lost_8 (fun r2 m2 => x = r2 ∧ Rel m2) (k + 1) (los f (m 1 0).toNat a) a m2 := by
      intro k
      induction k with
      | zero =>
        intro a m2 hb q1 q2
        have e0 : m2 67 0 = m 1 0 := by rw [q1 67 0 (by unfold Scr; omega)]; exact n1'
        unfold wp_X11_lost_8
        refine bt (by omega) ⟨?_, Rel.frame q1 hR⟩
        rw [hx, show a = (m 1 0).toNat by omega]
      | succ k ih =>
        intro a m2 hb q1 q2
        have e0 : m2 67 0 = m 1 0 := by rw [q1 67 0 (by unfold Scr; omega)]; exact n1'
        unfold wp_X11_lost_8
        refine bf (by omega) ⟨(m 1 0).toNat + 1, ?_⟩
        have := inner (fun v1_4 v2_4 m_4 => wp_X11_lost_8 (fun r2 m2 => x = r2 ∧ Rel m2) (k + 1) v1_4 v2_4 m_4) (fun r2 m2 => x = r2 ∧ Rel m2) a (by omega) (fun m' g1 g2 => ih (a + 1) m' (by omega) g1 g2) (m 1 0).toNat 0 m2 (by omega) q1 q2
        unfold lo at this
        rw [Int.add_zero] at this
        exact this
    unfold wp_X11_lost
    exact sp_M_asMade hR hf (fun m2 u1 u2 => ⟨(m 1 0).toNat + 1, outer (m 1 0).toNat 0 m2 (by omega) u1 u2⟩)
  have inner : ∀ (K : Int → Int → Mem → Prop) (post : Int → Mem → Prop) (a : Nat), (a : Int) < m 1 0 → (∀ m' : Mem, (∀ c i : Int, ¬ Scr c i → m' c i = m c i) → K (los f (m 1 0).toNat (a + 1)) ((a + 1 : Nat) : Int) m') → ∀ (k b : Nat) (m2 : Mem), b + k = (m 1 0).toNat → (∀ c i : Int, ¬ Scr c i → m2 c i = m c i) → wp_X10_lost_17 K post (k + 1) (los f (m 1 0).toNat a + lo f a b) a b m2 := by
    intro K post a ha hK k
    induction k with
    | zero =>
      intro b m2 hb q1
      have e0 : m2 1 0 = m 1 0 := q1 1 0 (by unfold Scr; omega)
      unfold wp_X10_lost_17
      refine bt (by omega) ?_
      rw [show w32 ((a : Int) + 1) = ((a + 1 : Nat) : Int) by unfold w32; omega, show b = (m 1 0).toNat by omega]
      exact hK m2 q1
    | succ k ih =>
      intro b m2 hb q1
      have e0 : m2 1 0 = m 1 0 := q1 1 0 (by unfold Scr; omega)
      have h1 := hN a (by omega)
      have h2 := lo_r f1 a b
      have h3 := f1 a b
      have nxt : ∀ (m3 : Mem), (∀ c i : Int, ¬ Scr c i → m3 c i = m c i) → wp_X10_lost_17 K post (k + 1) (los f (m 1 0).toNat a + lo f a b + f a b) a (w32 ((b : Int) + 1)) m3 := fun m3 g1 => by
        rw [show w32 ((b : Int) + 1) = ((b + 1 : Nat) : Int) by unfold w32; omega]
        have := ih (b + 1) m3 (by omega) g1
        unfold lo at this
        rw [← Int.add_assoc] at this
        exact this
      have n0' : f a b = 0 → ∀ (m3 : Mem), (∀ c i : Int, ¬ Scr c i → m3 c i = m c i) → wp_X10_lost_17 K post (k + 1) (los f (m 1 0).toNat a + lo f a b) a (w32 ((b : Int) + 1)) m3 := fun z m3 g1 => by
        have := nxt m3 g1
        rw [z, Int.add_zero] at this
        exact this
      unfold wp_X10_lost_17
      refine bf (by omega) ⟨fun z => n0' (by rw [z, f2]) m2 q1, fun z => ?_⟩
      refine sp_C_follow hR q1 (by omega) (by omega) (fun L m3 g1 g2 g3 g4 g5 => n1 (n0' (f3 _ _ L z g2) m3 g5)) (fun L m3 g1 g2 => n0 ?_)
      have := nxt m3 g2
      rw [f4 _ _ L z g1] at this
      rw [w32_i (x := los f (m 1 0).toNat a + lo f a b + 1) (by omega)]
      exact this
  have outer : ∀ (k a : Nat) (m2 : Mem), a + k = (m 1 0).toNat → (∀ c i : Int, ¬ Scr c i → m2 c i = m c i) → wp_X10_lost_4 (fun r m1 => wp_X11_lost m1 (fun r2 m2 => r = r2 ∧ Rel m2)) (k + 1) (los f (m 1 0).toNat a) a m2 := by
    intro k
    induction k with
    | zero =>
      intro a m2 hb q1
      have e0 : m2 1 0 = m 1 0 := q1 1 0 (by unfold Scr; omega)
      unfold wp_X10_lost_4
      refine bt (by omega) (mside _ m2 ?_ q1)
      rw [show a = (m 1 0).toNat by omega]
    | succ k ih =>
      intro a m2 hb q1
      have e0 : m2 1 0 = m 1 0 := q1 1 0 (by unfold Scr; omega)
      unfold wp_X10_lost_4
      refine bf (by omega) ⟨(m 1 0).toNat + 1, ?_⟩
      have := inner (fun v1_1 v2_1 m_1 => wp_X10_lost_4 (fun r m1 => wp_X11_lost m1 (fun r2 m2 => r = r2 ∧ Rel m2)) (k + 1) v1_1 v2_1 m_1) (fun r m1 => wp_X11_lost m1 (fun r2 m2 => r = r2 ∧ Rel m2)) a (by omega) (fun m' g1 => ih (a + 1) m' (by omega) g1) (m 1 0).toNat 0 m2 (by omega) q1
      unfold lo at this
      rw [Int.add_zero] at this
      exact this
  unfold wp_X10_lost
  exact ⟨(m 1 0).toNat + 1, outer (m 1 0).toNat 0 m (by omega) (fun _ _ _ => rfl)⟩
