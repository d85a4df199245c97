/-! least: the class's labels, its loops -/
def FoI (m0 : Mem) (G T : Nat) (p e : Nat → Int) (ms : Mem) (v1 : Int) (g t : Nat) (m : Mem) : Prop := SpI m0 G T p e m ∧ (∀ x : Nat, x < G → m 55 x = ms 55 x) ∧ (∀ y : Nat, y < T → m 56 y ≤ ms 56 y) ∧ (∀ x y : Nat, x < G → y < T → (x < g ∨ (x = g ∧ y < t)) → opC m0 x y → ms 55 x < 1000000 → m 56 y ≤ ms 55 x + cC53 m0 x y) ∧ (v1 = 0 ∨ v1 = 1) ∧ (v1 = 0 → ∀ y : Nat, y < T → m 56 y = ms 56 y)
theorem sp_forth {m0 : Mem} {G T : Nat} (hE : EmD m0 G T) {p e : Nat → Int} (hp0 : ∀ g : Nat, g < G → 0 ≤ p g) (hG : LG 48 (ArC G T m0) (rtC G m0) p) (he : LF (ArC G T m0) 1000000 e) {ms : Mem} (hs : SpI m0 G T p e ms) {post : Int → Mem → Prop} (H : ∀ (v : Int) (m : Mem), FoI m0 G T p e ms v G 0 m → post v m) : wp_X2_spreadForth ms post := by
  obtain ⟨e1, e2, e3, e4, e5, e6⟩ := hE
  have inner : ∀ (K4 : Int → Int → Mem → Prop) (g : Nat), g < G → (∀ (v : Int) (m : Mem), FoI m0 G T p e ms v (g + 1) 0 m → K4 v ((g + 1 : Nat) : Int) m) → ∀ (rem t : Nat) (v : Int) (m : Mem), t + rem = T → FoI m0 G T p e ms v g t m → wp_X2_spreadForth_14 K4 post (rem + 1) v g t m := by
    intro K4 g hg hK rem
    induction rem with
    | zero =>
      intro t v m ht h
      have : t = T := by omega
      subst this
      have nx := hK v m ⟨h.1, h.2.1, h.2.2.1, fun x y hx hy hor => h.2.2.2.1 x y hx hy (by omega), h.2.2.2.2⟩
      unfold wp_X2_spreadForth_14
      rw [h.1.1 47 3 (by decide), e2, i1 g (by omega)]
      exact bt (Int.le_refl _) nx
    | succ rem ih =>
      intro t v m ht h
      have htT : t < T := by omega
      have cg : 0 ≤ (g : Int) ∧ (g : Int) < 24 := by omega
      have ct : 0 ≤ (t : Int) ∧ (t : Int) < 24 := by omega
      obtain ⟨x1, x2⟩ := ix24 cg ct
      have e53 : m 53 (24 * (g : Int) + t) = cC53 m0 g t := h.1.1 53 _ (by decide)
      have r1 := (spi_r ⟨e1, e2, e3, e4, e5, e6⟩ hp0 h.1).1 g hg
      have r2 := (spi_r ⟨e1, e2, e3, e4, e5, e6⟩ hp0 h.1).2 t htT
      have hc := e6 g t hg htT
      have hrem : t + 1 + rem = T := by omega
      have hno : ¬ (T : Int) ≤ t := by omega
      have h55 := h.2.1 g hg
      have same : (opC m0 g t → ms 55 g < 1000000 → m 56 t ≤ ms 55 g + cC53 m0 g t) → wp_X2_spreadForth_14 K4 post (rem + 1) v g ((t + 1 : Nat) : Int) m := fun q => ih (t + 1) v m hrem ⟨h.1, h.2.1, h.2.2.1, fun x y hx hy hor ho hl => by
        by_cases c : x = g ∧ y = t
        · rw [c.1] at ho hl ⊢; rw [c.2] at ho ⊢; exact q ho hl
        · exact h.2.2.2.1 x y hx hy (by omega) ho hl, h.2.2.2.2⟩
      have hop : opC m0 g t ↔ cC53 m0 g t < 1000000 := Iff.rfl
      have ew : w32 (m 55 g + cC53 m0 g t) = m 55 g + cC53 m0 g t := w32_i (by omega)
      have e73 : (¬ (opC m0 g t ∧ ms 55 g < 1000000)) → wp_X2_spreadForth_73 v g t (m 55 g + cC53 m0 g t) m (fun v1_3 v2_3 v3_3 m_3 => wp_X2_spreadForth_14 K4 post (rem + 1) v1_3 v2_3 v3_3 m_3) post := fun q => by
        unfold wp_X2_spreadForth_73 wp_X2_spreadForth_74
        rw [i1 t (by omega)]
        exact bt rfl (same (fun a b => absurd ⟨a, b⟩ q))
      unfold wp_X2_spreadForth_14
      rw [h.1.1 47 3 (by decide), e2, x1, e53, ew]
      clear ew
      refine bf hno ⟨cg, x2, eqm ⟨cg, fun q => e73 (by omega), fun q => ⟨x2, fun q2 => e73 (fun z => absurd (hop.mp z.1) (Int.not_lt.mpr q2)), fun q2 => ?_⟩⟩⟩
      unfold wp_X2_spreadForth_74
      rw [i1 t (by omega)]
      refine bf (by decide) ⟨ct, fun q3 => same (fun _ _ => by omega), fun q3 => ⟨ct, eqm ⟨ct, eqm ?_⟩⟩⟩
      have st := (sp_rel ⟨e1, e2, e3, e4, e5, e6⟩ hG he h.1 hg htT).1 (hop.mpr (by omega)) (by omega) (by omega)
      refine ih (t + 1) 1 _ hrem ⟨st, fun x hx => ?_, fun y hy => ?_, fun x y hx hy hor ho hl => ?_, Or.inr rfl, fun z => absurd z (by decide)⟩
      · rw [mset_r (show ¬ (55 : Int) = 58 by decide), mset_r (show ¬ (55 : Int) = 56 by decide)]; exact h.2.1 x hx
      · rw [mset_r (show ¬ (56 : Int) = 58 by decide)]
        have := h.2.2.1 y hy
        by_cases c : y = t
        · rw [c, mset_same]; rw [c] at this; omega
        · rw [mset_ne (by omega)]; exact this
      · rw [mset_r (show ¬ (56 : Int) = 58 by decide)]
        by_cases c : y = t
        · rw [c, mset_same]
          by_cases c2 : x = g
          · rw [c2, h55]; exact Int.le_refl _
          · have := h.2.2.2.1 x y hx hy (by omega) ho hl
            rw [c] at this
            omega
        · rw [mset_ne (by omega)]
          exact h.2.2.2.1 x y hx hy (by omega) ho hl
  have outer : ∀ (rem g : Nat) (v : Int) (m : Mem), g + rem = G → FoI m0 G T p e ms v g 0 m → wp_X2_spreadForth_4 post (rem + 1) v g m := by
    intro rem
    induction rem with
    | zero =>
      intro g v m hg h
      have : g = G := by omega
      subst this
      unfold wp_X2_spreadForth_4
      rw [h.1.1 47 2 (by decide), e1]
      exact bt (Int.le_refl _) ⟨h.2.2.2.2.1, H v m h⟩
    | succ rem ih =>
      intro g v m hg h
      unfold wp_X2_spreadForth_4
      rw [h.1.1 47 2 (by decide), e1]
      exact bf (by omega) ⟨T + 1, inner _ g (by omega) (fun v' m' h' => ih (g + 1) v' m' (by omega) h') T 0 v m (by omega) h⟩
  exact ⟨G + 1, outer G 0 0 ms (by omega) ⟨hs, fun _ _ => rfl, fun _ _ => Int.le_refl _, fun x y _ _ hor => by omega, Or.inl rfl, fun _ _ _ => rfl⟩⟩
def BaI (m0 : Mem) (G T : Nat) (p e : Nat → Int) (ms : Mem) (v1 : Int) (g t : Nat) (m : Mem) : Prop := SpI m0 G T p e m ∧ (∀ y : Nat, y < T → m 56 y = ms 56 y) ∧ (∀ x : Nat, x < G → m 55 x ≤ ms 55 x) ∧ (∀ x y : Nat, x < G → y < T → (x < g ∨ (x = g ∧ y < t)) → 0 < fC m0 x y → ms 56 y < 1000000 → m 55 x ≤ ms 56 y - cC53 m0 x y) ∧ (v1 = 0 ∨ v1 = 1) ∧ (v1 = 0 → ∀ x : Nat, x < G → m 55 x = ms 55 x)
theorem sp_back {m0 : Mem} {G T : Nat} (hE : EmD m0 G T) {p e : Nat → Int} (hp0 : ∀ g : Nat, g < G → 0 ≤ p g) (hG : LG 48 (ArC G T m0) (rtC G m0) p) (he : LF (ArC G T m0) 1000000 e) {ms : Mem} (hs : SpI m0 G T p e ms) {post : Int → Mem → Prop} (H : ∀ (v : Int) (m : Mem), BaI m0 G T p e ms v G 0 m → post v m) : wp_X2_spreadBack ms post := by
  obtain ⟨e1, e2, e3, e4, e5, e6⟩ := hE
  have inner : ∀ (K4 : Int → Int → Mem → Prop) (g : Nat), g < G → (∀ (v : Int) (m : Mem), BaI m0 G T p e ms v (g + 1) 0 m → K4 v ((g + 1 : Nat) : Int) m) → ∀ (rem t : Nat) (v : Int) (m : Mem), t + rem = T → BaI m0 G T p e ms v g t m → wp_X2_spreadBack_14 K4 post (rem + 1) v g t m := by
    intro K4 g hg hK rem
    induction rem with
    | zero =>
      intro t v m ht h
      have : t = T := by omega
      subst this
      have nx := hK v m ⟨h.1, h.2.1, h.2.2.1, fun x y hx hy hor => h.2.2.2.1 x y hx hy (by omega), h.2.2.2.2⟩
      unfold wp_X2_spreadBack_14
      rw [h.1.1 47 3 (by decide), e2, i1 g (by omega)]
      exact bt (Int.le_refl _) nx
    | succ rem ih =>
      intro t v m ht h
      have htT : t < T := by omega
      have cg : 0 ≤ (g : Int) ∧ (g : Int) < 24 := by omega
      have ct : 0 ≤ (t : Int) ∧ (t : Int) < 24 := by omega
      obtain ⟨x1, x2⟩ := ix24 cg ct
      have e53 : m 53 (24 * (g : Int) + t) = cC53 m0 g t := h.1.1 53 _ (by decide)
      have e54 : m 54 (24 * (g : Int) + t) = fC m0 g t := h.1.1 54 _ (by decide)
      have r1 := (spi_r ⟨e1, e2, e3, e4, e5, e6⟩ hp0 h.1).1 g hg
      have r2 := (spi_r ⟨e1, e2, e3, e4, e5, e6⟩ hp0 h.1).2 t htT
      have hc := e6 g t hg htT
      have hrem : t + 1 + rem = T := by omega
      have hno : ¬ (T : Int) ≤ t := by omega
      have h56 := h.2.1 t htT
      have same : (0 < fC m0 g t → ms 56 t < 1000000 → m 55 g ≤ ms 56 t - cC53 m0 g t) → wp_X2_spreadBack_14 K4 post (rem + 1) v g ((t + 1 : Nat) : Int) m := fun q => ih (t + 1) v m hrem ⟨h.1, h.2.1, h.2.2.1, fun x y hx hy hor ho hl => by
        by_cases c : x = g ∧ y = t
        · rw [c.1] at ho ⊢; rw [c.2] at ho hl ⊢; exact q ho hl
        · exact h.2.2.2.1 x y hx hy (by omega) ho hl, h.2.2.2.2⟩
      have ew : w32 (m 56 t - cC53 m0 g t) = m 56 t - cC53 m0 g t := w32_i (by omega)
      have e71 : (¬ (0 < fC m0 g t ∧ ms 56 t < 1000000)) → wp_X2_spreadBack_71 v g t (m 56 t - cC53 m0 g t) m (fun v1_3 v2_3 v3_3 m_3 => wp_X2_spreadBack_14 K4 post (rem + 1) v1_3 v2_3 v3_3 m_3) post := fun q => by
        unfold wp_X2_spreadBack_71 wp_X2_spreadBack_72
        rw [i1 t (by omega)]
        exact bt rfl (same (fun a b => absurd ⟨a, b⟩ q))
      unfold wp_X2_spreadBack_14
      rw [h.1.1 47 3 (by decide), e2, x1, e53, e54, ew]
      clear ew
      refine bf hno ⟨ct, x2, eqm ⟨ct, fun q => e71 (by omega), fun q => ⟨x2, fun q2 => e71 (by omega), fun q2 => ?_⟩⟩⟩
      unfold wp_X2_spreadBack_72
      rw [i1 t (by omega)]
      refine bf (by decide) ⟨cg, fun q3 => same (fun _ _ => by omega), fun q3 => ⟨cg, eqm ⟨cg, eqm ?_⟩⟩⟩
      have st := (sp_rel ⟨e1, e2, e3, e4, e5, e6⟩ hG he h.1 hg htT).2 (by omega) (by omega) (by omega)
      refine ih (t + 1) 1 _ hrem ⟨st, fun y hy => ?_, fun x hx => ?_, fun x y hx hy hor ho hl => ?_, Or.inr rfl, fun z => absurd z (by decide)⟩
      · rw [mset_r (show ¬ (56 : Int) = 57 by decide), mset_r (show ¬ (56 : Int) = 55 by decide)]; exact h.2.1 y hy
      · rw [mset_r (show ¬ (55 : Int) = 57 by decide)]
        have := h.2.2.1 x hx
        by_cases c : x = g
        · rw [c, mset_same]; rw [c] at this; omega
        · rw [mset_ne (by omega)]; exact this
      · rw [mset_r (show ¬ (55 : Int) = 57 by decide)]
        by_cases c : x = g
        · rw [c, mset_same]
          by_cases c2 : y = t
          · rw [c2, h56]; exact Int.le_refl _
          · have := h.2.2.2.1 x y hx hy (by omega) ho hl
            rw [c] at this
            omega
        · rw [mset_ne (by omega)]
          exact h.2.2.2.1 x y hx hy (by omega) ho hl
  have outer : ∀ (rem g : Nat) (v : Int) (m : Mem), g + rem = G → BaI m0 G T p e ms v g 0 m → wp_X2_spreadBack_4 post (rem + 1) v g m := by
    intro rem
    induction rem with
    | zero =>
      intro g v m hg h
      have : g = G := by omega
      subst this
      unfold wp_X2_spreadBack_4
      rw [h.1.1 47 2 (by decide), e1]
      exact bt (Int.le_refl _) ⟨h.2.2.2.2.1, H v m h⟩
    | succ rem ih =>
      intro g v m hg h
      unfold wp_X2_spreadBack_4
      rw [h.1.1 47 2 (by decide), e1]
      exact bf (by omega) ⟨T + 1, inner _ g (by omega) (fun v' m' h' => ih (g + 1) v' m' (by omega) h') T 0 v m (by omega) h⟩
  exact ⟨G + 1, outer G 0 0 ms (by omega) ⟨hs, fun _ _ => rfl, fun _ _ => Int.le_refl _, fun x y _ _ hor => by omega, Or.inl rfl, fun _ _ _ => rfl⟩⟩
