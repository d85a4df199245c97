/-! least: the class's labels, all rounds -/
/-- labels at their end, in terms of the class's rows -/
def SpE (m0 : Mem) (G T : Nat) (p : Nat → Int) (m : Mem) : Prop := FrE m0 m ∧ (∃ rk : Nat → Nat, LV 48 (ArC G T m0) (rtC G m0) p 1000000 (dC G T m) (pC G m) rk) ∧ LF (ArC G T m0) 1000000 (dC G T m)
theorem dC_cases {G T : Nat} (hG : G ≤ 24) (x : Nat) : (x < G) ∨ (∃ t : Nat, t < T ∧ x = 24 + t) ∨ (∀ m : Mem, dC G T m x = 1000000) := by
  by_cases c1 : x < G
  · exact Or.inl c1
  · by_cases c2 : 24 ≤ x ∧ x < 24 + T
    · exact Or.inr (Or.inl ⟨x - 24, by omega, by omega⟩)
    · refine Or.inr (Or.inr (fun m => ?_))
      unfold dC
      rw [if_neg c1, if_neg c2]
theorem sp_rounds {m0 : Mem} {G T : Nat} (hE : EmD m0 G T) {p e : Nat → Int} (hp0 : ∀ g : Nat, g < G → 0 ≤ p g) (hG : LG 48 (ArC G T m0) (rtC G m0) p) {par' : Nat → Int} {rk' : Nat → Nat} (hLe : LV 48 (ArC G T m0) (rtC G m0) p 1000000 e par' rk') (he : LF (ArC G T m0) 1000000 e) {post : Mem → Prop} (H : ∀ m : Mem, SpE m0 G T p m → post m) : ∀ (rem v2 : Nat) (m : Mem), v2 + rem = 25 → SpI m0 G T p e m → (cB (fun x => decide (¬ dC G T m x = e x)) 48 = 0 ∨ cB (fun x => decide (¬ dC G T m x = e x)) 48 + v2 ≤ 24) → wp_X2_spread_79 post (rem + 1) 1 v2 m := by
  have hG24 := hE.2.2.1
  have allE : ∀ m : Mem, SpI m0 G T p e m → cB (fun x => decide (¬ dC G T m x = e x)) 48 = 0 → SpE m0 G T p m := fun m h hc => by
    have eq : ∀ x : Nat, x < 48 → dC G T m x = e x := fun x hx => by
      by_cases q : dC G T m x = e x
      · exact q
      · have := cB_lt (p := fun _ => false) (q := fun x => decide (¬ dC G T m x = e x)) (z := x) hx rfl (decide_eq_true q) (fun _ _ z => Bool.noConfusion z)
        omega
    refine ⟨h.1, h.2.1, fun u v k hA hu => ?_⟩
    obtain ⟨a1, a2, -⟩ := hG.1 u v k hA
    rw [eq u a1] at hu ⊢
    rw [eq v a2]
    exact he u v k hA hu
  intro rem
  induction rem with
  | zero =>
    intro v2 m hv h hc
    unfold wp_X2_spread_79
    exact bt (by omega) (H m (allE m h (by omega)))
  | succ rem ih =>
    intro v2 m hv h hc
    have hrt : ∀ x : Nat, x < 48 → dC G T m x ≤ 1000000 ∧ (rtC G m0 x → dC G T m x = 0) := fun x hx => by
      obtain ⟨rk, hL⟩ := h.2.1
      exact ⟨(hL.1 x hx).1, fun hr => lv_root (by decide) hG hL hx hr⟩
    unfold wp_X2_spread_79
    refine bf (by omega) (bf (by decide) (sp_forth hE hp0 hG he h (fun v m1 h1 => sp_back hE hp0 hG he h1.1 (fun v' m2 h2 => ?_))))
    obtain ⟨a1, a2, a3, a4, a5, a6⟩ := h1
    obtain ⟨b1, b2, b3, b4, b5, b6⟩ := h2
    have step : ∀ x : Nat, x < 48 → e x ≤ dC G T m2 x ∧ dC G T m2 x ≤ dC G T m x := fun x hx => by
      refine ⟨b1.2.2 x hx, ?_⟩
      rcases dC_cases (T := T) hG24 x with c | ⟨t, ht, c⟩ | c
      · rw [dC_g c, dC_g c]
        have h3 := b3 x c
        rw [a2 x c] at h3
        exact h3
      · subst c
        rw [dC_t hG24 ht, dC_t hG24 ht, b2 t ht]
        exact a3 t ht
      · rw [c, c]; exact Int.le_refl _
    have relaxed : ∀ (u v : Nat) (k : Int), ArC G T m0 u v k → dC G T m u < 1000000 → dC G T m2 v ≤ dC G T m u + k := fun u w k hA hu => by
      obtain ⟨g, t, hg, ht, q | q⟩ := hA
      · obtain ⟨q1, q2, q3, q4⟩ := q
        subst q1 q2 q4
        rw [dC_g hg] at hu ⊢
        rw [dC_t hG24 ht, b2 t ht]
        exact a4 u t hg ht (Or.inl hg) q3 hu
      · obtain ⟨q1, q2, q3, q4⟩ := q
        subst q1 q2 q4
        rw [dC_t hG24 ht] at hu ⊢
        rw [dC_g hg]
        have h3 := a3 t ht
        have h4 := b4 w t hg ht (Or.inl hg) q3 (by omega)
        omega
    have go : wp_X2_spread_79 post (rem + 1) 1 (w32 ((v2 : Int) + 1)) m2 := by
      rw [i1 v2 (by omega)]
      refine ih (v2 + 1) m2 (by omega) b1 ?_
      have hmon : cB (fun x => decide (¬ dC G T m2 x = e x)) 48 ≤ cB (fun x => decide (¬ dC G T m x = e x)) 48 := cB_mono 48 (fun y hy hyd => by
        have hy' : ¬ dC G T m2 y = e y := of_decide_eq_true hyd
        have := step y hy
        exact decide_eq_true (fun w => hy' (by omega)))
      by_cases z : 0 < cB (fun x => decide (¬ dC G T m x = e x)) 48
      · have := lv_round (by decide) hG hLe hrt step relaxed z
        omega
      · omega
    refine ⟨fun _ => go, fun q => ⟨fun q2 => ?_, fun _ => go⟩⟩
    have same : ∀ x : Nat, dC G T m2 x = dC G T m x := fun x => by
      rcases dC_cases (T := T) hG24 x with c | ⟨t, ht, c⟩ | c
      · rw [dC_g c, dC_g c, b6 q x c, a2 x c]
      · subst c
        rw [dC_t hG24 ht, dC_t hG24 ht, b2 t ht, a6 q2 t ht]
      · rw [c, c]
    have fin : SpE m0 G T p m2 := ⟨b1.1, b1.2.1, fun u w k hA hu => by
      rw [same u] at hu ⊢
      exact relaxed u w k hA hu⟩
    have eG := H m2 fin
    unfold wp_X2_spread_79
    exact ⟨fun _ => eG, fun _ => bt rfl eG⟩
theorem cnt_48 {G T : Nat} (h : G + T ≤ 24) (hG : G ≤ 24) (hT : T ≤ 24) {q : Nat → Bool} (hq : ∀ x : Nat, x < 48 → q x = true → x < G ∨ (24 ≤ x ∧ x < 24 + T)) : cB q 48 ≤ 24 := by
  have h1 := cB_inj (p := q) (fun x => if x < G then x else x - 24 + G) (k := 24) 48 (fun _ => true) (fun x hx hp => by
    refine ⟨?_, rfl⟩
    by_cases c : x < G
    · show (if x < G then x else x - 24 + G) < 24
      rw [if_pos c]; omega
    · show (if x < G then x else x - 24 + G) < 24
      have := hq x hx hp
      rw [if_neg c]; omega) (fun x y hx hy hpx hpy hxy => by
    have hxy' : (if x < G then x else x - 24 + G) = (if y < G then y else y - 24 + G) := hxy
    have a := hq x hx hpx
    have b := hq y hy hpy
    by_cases c : x < G
    · rw [if_pos c] at hxy'
      by_cases c2 : y < G
      · rw [if_pos c2] at hxy'; exact hxy'
      · rw [if_neg c2] at hxy'; omega
    · rw [if_neg c] at hxy'
      by_cases c2 : y < G
      · rw [if_pos c2] at hxy'; omega
      · rw [if_neg c2] at hxy'; omega)
  have h2 := cB_le (fun _ => true) 24
  omega
theorem sp_spreadE {m0 : Mem} {G T : Nat} (hE : EmD m0 G T) {p : Nat → Int} (hp0 : ∀ g : Nat, g < G → 0 ≤ p g) (hG : LG 48 (ArC G T m0) (rtC G m0) p) {post : Mem → Prop} (H : ∀ m : Mem, SpE m0 G T p m → post m) : wp_X2_spread m0 post := by
  obtain ⟨e1, e2, e3, e4, e5, e6⟩ := hE
  have last : ∀ m : Mem, FrE m0 m → (∀ g : Nat, g < G → (m 55 g = if 0 < m0 51 g then 0 else 1000000) ∧ m 57 g = -1) → (∀ t : Nat, t < T → m 56 t = 1000000 ∧ m 58 t = -1) → ∃ n : Nat, wp_X2_spread_79 post n 1 0 m := fun m hf hg ht => by
    have hd : ∀ x : Nat, (rtC G m0 x ∧ dC G T m x = 0 ∧ pC G m x = -1) ∨ (¬ rtC G m0 x ∧ dC G T m x = 1000000) := fun x => by
      rcases dC_cases (T := T) e3 x with c | ⟨t, ht', c⟩ | c
      · rw [dC_g c, (hg x c).1, pC_g c, (hg x c).2, if_pos rfl]
        by_cases q : 0 < m0 51 x
        · rw [if_pos q]; exact Or.inl ⟨⟨c, q⟩, rfl, rfl⟩
        · rw [if_neg q]; exact Or.inr ⟨fun z => q z.2, rfl⟩
      · subst c
        rw [dC_t e3 ht', (ht t ht').1]
        exact Or.inr ⟨fun z => by have := z.1; omega, rfl⟩
      · refine Or.inr ⟨fun z => ?_, c m⟩
        have := c (mset m 55 x 0)
        rw [dC_g z.1, mset_same] at this
        exact absurd this (by decide)
    have hL : LV 48 (ArC G T m0) (rtC G m0) p 1000000 (dC G T m) (pC G m) (fun _ => 0) := by
      refine ⟨fun x hx => ?_, fun x hx hdx => ?_, fun x hx hr => ?_⟩
      · rcases hd x with ⟨q1, q2, q3⟩ | ⟨q1, q2⟩
        · rw [q2]
          have := (fnC_r 1000000 (dC G T m) 48).1
          exact ⟨by decide, fun _ => ⟨by rw [hG.2 x hx q1]; exact Int.le_refl _, by omega⟩⟩
        · rw [q2]; exact ⟨Int.le_refl _, fun z => absurd z (by decide)⟩
      · rcases hd x with ⟨q1, q2, q3⟩ | ⟨q1, q2⟩
        · exact Or.inl ⟨q3, q1, q2⟩
        · rw [q2] at hdx; exact absurd hdx (by decide)
      · rcases hd x with ⟨q1, q2, q3⟩ | ⟨q1, q2⟩
        · rw [q2]; exact Int.le_refl _
        · exact absurd hr q1
    obtain ⟨e, par', rk', f1, f2, f3⟩ := lv_fix (by decide) (by decide) hG hL
    refine ⟨26, sp_rounds ⟨e1, e2, e3, e4, e5, e6⟩ hp0 hG f1 f2 H 25 0 m (by decide) ⟨hf, ⟨_, hL⟩, fun x _ => f3 x⟩ (Or.inr ?_)⟩
    have := cnt_48 e5 e3 e4 (q := fun x => decide (¬ dC G T m x = e x)) (fun x hx hq => by
      have hq' : ¬ dC G T m x = e x := of_decide_eq_true hq
      rcases dC_cases (T := T) e3 x with c | ⟨t, ht', c⟩ | c
      · exact Or.inl c
      · exact Or.inr (by omega)
      · exfalso
        apply hq'
        rw [c]
        by_cases w : e x < 1000000
        · rcases f1.2.1 x hx w with ⟨-, y, -⟩ | ⟨u, hu, -, k, y, -⟩
          · have := c (mset m 55 x 0)
            rw [dC_g y.1, mset_same] at this
            exact absurd this (by decide)
          · obtain ⟨g, t, hg', ht', ⟨y1, y2, -⟩ | ⟨y1, y2, -⟩⟩ := y
            · have := c (mset m 56 t 0)
              rw [y2, dC_t e3 ht', mset_same] at this
              exact absurd this (by decide)
            · have := c (mset m 55 g 0)
              rw [y2, dC_g hg', mset_same] at this
              exact absurd this (by decide)
        · have := (f1.1 x hx).1
          omega)
    omega
  have l46 : ∀ (rem t : Nat) (m : Mem), t + rem = T → FrE m0 m → (∀ g : Nat, g < G → (m 55 g = if 0 < m0 51 g then 0 else 1000000) ∧ m 57 g = -1) → (∀ y : Nat, y < t → m 56 y = 1000000 ∧ m 58 y = -1) → wp_X2_spread_46 (fun v1_4 v2_4 m_4 => ∃ n_5 : Nat, wp_X2_spread_79 post n_5 v1_4 v2_4 m_4) post (rem + 1) t m := by
    intro rem
    induction rem with
    | zero =>
      intro t m ht hf hg hy
      have : t = T := by omega
      subst this
      unfold wp_X2_spread_46
      rw [hf 47 3 (by decide), e2]
      exact bt (Int.le_refl _) (last m hf hg hy)
    | succ rem ih =>
      intro t m ht hf hg hy
      have ct : 0 ≤ (t : Int) ∧ (t : Int) < 24 := by omega
      have nx := ih (t + 1) (mset (mset m 56 t 1000000) 58 t (-1)) (by omega) (fun x i hx => by rw [mset_ne (fun z => hx (by omega)), mset_ne (fun z => hx (by omega))]; exact hf x i hx) (fun g hg' => by
        rw [mset_r (show ¬ (55 : Int) = 58 by decide), mset_r (show ¬ (55 : Int) = 56 by decide), mset_r (show ¬ (57 : Int) = 58 by decide), mset_r (show ¬ (57 : Int) = 56 by decide)]
        exact hg g hg') (fun y hyt => by
        rw [mset_r (show ¬ (56 : Int) = 58 by decide)]
        by_cases c : y = t
        · rw [c, mset_same, mset_same]; exact ⟨rfl, rfl⟩
        · rw [mset_ne (by omega), mset_ne (by omega), mset_r (show ¬ (58 : Int) = 56 by decide)]; exact hy y (by omega))
      unfold wp_X2_spread_46
      rw [hf 47 3 (by decide), e2, i1 t (by omega)]
      exact bf (by omega) ⟨ct, eqm ⟨ct, eqm nx⟩⟩
  have l2 : ∀ (rem g : Nat) (m : Mem), g + rem = G → FrE m0 m → (∀ x : Nat, x < g → (m 55 x = if 0 < m0 51 x then 0 else 1000000) ∧ m 57 x = -1) → wp_X2_spread_2 (fun v1_3 m_3 => ∃ n_6 : Nat, wp_X2_spread_46 (fun v1_4 v2_4 m_4 => ∃ n_5 : Nat, wp_X2_spread_79 post n_5 v1_4 v2_4 m_4) post n_6 v1_3 m_3) post (rem + 1) g m := by
    intro rem
    induction rem with
    | zero =>
      intro g m hg hf hx
      have : g = G := by omega
      subst this
      unfold wp_X2_spread_2
      rw [hf 47 2 (by decide), e1]
      exact bt (Int.le_refl _) ⟨T + 1, l46 T 0 m (by omega) hf hx (fun y hy => by omega)⟩
    | succ rem ih =>
      intro g m hg hf hx
      have cg : 0 ≤ (g : Int) ∧ (g : Int) < 24 := by omega
      have nx : ∀ v : Int, v = (if 0 < m0 51 g then 0 else 1000000) → wp_X2_spread_2 (fun v1_3 m_3 => ∃ n_6 : Nat, wp_X2_spread_46 (fun v1_4 v2_4 m_4 => ∃ n_5 : Nat, wp_X2_spread_79 post n_5 v1_4 v2_4 m_4) post n_6 v1_3 m_3) post (rem + 1) ((g + 1 : Nat) : Int) (mset (mset m 55 g v) 57 g (-1)) := fun v hv => ih (g + 1) _ (by omega) (fun x i hx => by rw [mset_ne (fun z => hx (by omega)), mset_ne (fun z => hx (by omega))]; exact hf x i hx) (fun y hyt => by
        rw [mset_r (show ¬ (55 : Int) = 57 by decide)]
        by_cases c : y = g
        · rw [c, mset_same, mset_same]; exact ⟨hv, rfl⟩
        · rw [mset_ne (by omega), mset_ne (by omega), mset_r (show ¬ (57 : Int) = 55 by decide)]; exact hx y (by omega))
      unfold wp_X2_spread_2 wp_X2_spread_30
      rw [hf 47 2 (by decide), e1, i1 g (by omega), hf 51 g (by decide)]
      exact bf (by omega) ⟨cg, fun q => ⟨cg, eqm ⟨cg, eqm (nx _ (by rw [if_neg (by omega)]))⟩⟩, fun q => ⟨cg, eqm ⟨cg, eqm (nx _ (by rw [if_pos (by omega)]))⟩⟩⟩
  exact ⟨G + 1, l2 G 0 m0 (by omega) (fun _ _ _ => rfl) (fun x hx => by omega)⟩
