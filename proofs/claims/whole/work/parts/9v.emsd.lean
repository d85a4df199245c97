/-! least: the class's sending -/
theorem sp_want {G T : Nat} {m : Mem} (hE : EmD m G T) {post : Int → Mem → Prop} (H1 : ∀ t : Nat, t < T → 0 < m 52 t → post 1 m) (H0 : (∀ t : Nat, t < T → ¬ 0 < m 52 t) → post 0 m) : wp_X2_isWanting m post := by
  obtain ⟨e1, e2, e3, e4, e5, e6⟩ := hE
  have key : ∀ rem t : Nat, t + rem = T → (∀ y : Nat, y < t → ¬ 0 < m 52 y) → wp_X2_isWanting_2 post (rem + 1) t m := by
    intro rem
    induction rem with
    | zero =>
      intro t ht h
      have : t = T := by omega
      subst this
      unfold wp_X2_isWanting_2
      rw [e2]
      exact bt (Int.le_refl _) (H0 h)
    | succ rem ih =>
      intro t ht h
      unfold wp_X2_isWanting_2
      rw [e2, i1 t (by omega)]
      exact bf (by omega) ⟨by omega, fun q => ih (t + 1) (by omega) (fun y hy => by
        by_cases c : y = t
        · rw [c]; omega
        · exact h y (by omega)), fun q => H1 t (by omega) (by omega)⟩
  exact ⟨T + 1, key T 0 (by omega) (fun y hy => by omega)⟩
theorem sp_cheap {G T : Nat} {m : Mem} (hE : EmD m G T) {post : Int → Mem → Prop} (H1 : ∀ t : Nat, t < T → 0 < m 52 t → m 56 t < 1000000 → post t m) (H0 : (∀ t : Nat, t < T → 0 < m 52 t → ¬ m 56 t < 1000000) → post (-1) m) : wp_X2_cheapestTaker m post := by
  obtain ⟨e1, e2, e3, e4, e5, e6⟩ := hE
  have key : ∀ (rem t : Nat) (v : Int), t + rem = T → ((v = -1 ∧ ∀ y : Nat, y < t → 0 < m 52 y → ¬ m 56 y < 1000000) ∨ ∃ y : Nat, y < t ∧ v = y ∧ 0 < m 52 y ∧ m 56 y < 1000000) → wp_X2_cheapestTaker_4 post (rem + 1) v t m := by
    intro rem
    induction rem with
    | zero =>
      intro t v ht h
      have : t = T := by omega
      subst this
      unfold wp_X2_cheapestTaker_4
      rw [e2]
      refine bt (Int.le_refl _) ?_
      rcases h with ⟨h1, h2⟩ | ⟨y, h1, h2, h3, h4⟩
      · rw [h1]; exact H0 h2
      · rw [h2]; exact H1 y h1 h3 h4
    | succ rem ih =>
      intro t v ht h
      have ct : 0 ≤ (t : Int) ∧ (t : Int) < 24 := by omega
      have same : (0 < m 52 t → ¬ m 56 t < 1000000) → wp_X2_cheapestTaker_4 post (rem + 1) v ((t + 1 : Nat) : Int) m := fun q => ih (t + 1) v (by omega) (by
        rcases h with ⟨h1, h2⟩ | ⟨y, h1, h2⟩
        · refine Or.inl ⟨h1, fun y hy hw => ?_⟩
          by_cases c : y = t
          · rw [c] at hw ⊢; exact q hw
          · exact h2 y (by omega) hw
        · exact Or.inr ⟨y, by omega, h2⟩)
      unfold wp_X2_cheapestTaker_4 wp_X2_cheapestTaker_36 wp_X2_cheapestTaker_37
      rw [e2, i1 t (by omega)]
      refine bf (by omega) ⟨ct, fun q => bt rfl (same (fun z => by omega)), fun q => ⟨ct, fun q2 => bt rfl (same (fun _ => by omega)), fun q2 => bf (by decide) ⟨fun q3 => ?_, fun q3 => ?_⟩⟩⟩
      · exact ih (t + 1) t (by omega) (Or.inr ⟨t, by omega, rfl, by omega, by omega⟩)
      · rcases h with ⟨h1, h2⟩ | ⟨y, h1, h2, h3, h4⟩
        · exact absurd h1 q3
        · exact ⟨ct, by omega, fun _ => ih (t + 1) v (by omega) (Or.inr ⟨y, by omega, h2, h3, h4⟩), fun _ => ih (t + 1) t (by omega) (Or.inr ⟨t, by omega, rfl, by omega, by omega⟩)⟩
  exact ⟨T + 1, key T 0 (-1) (by omega) (Or.inl ⟨rfl, fun y hy => by omega⟩)⟩
/-- the ways that the labels tell -/
theorem chainC {m0 : Mem} {G T : Nat} (hE : EmD m0 G T) {p : Nat → Int} {m : Mem} (h : SpE m0 G T p m) : ∃ pos : Nat → Nat, (∀ x : Nat, x < 48 → pos x < 48) ∧ ∀ t : Nat, t < T → m 56 t < 1000000 → ∃ g : Nat, g < G ∧ m 58 t = g ∧ opC m0 g t ∧ m 55 g < 1000000 ∧ m 56 t = m 55 g + cC53 m0 g t ∧ pos g < pos (24 + t) ∧ ((m 57 g = -1 ∧ 0 < m0 51 g ∧ m 55 g = 0) ∨ ∃ t2 : Nat, t2 < T ∧ m 57 g = t2 ∧ 0 < fC m0 g t2 ∧ m 56 t2 < 1000000 ∧ pos (24 + t2) < pos g) := by
  obtain ⟨e1, e2, e3, e4, e5, e6⟩ := hE
  obtain ⟨hf, ⟨rk, hL⟩, hF⟩ := h
  obtain ⟨pos, h1, h2⟩ := lv_pos hL
  refine ⟨pos, h1, fun t ht hd => ?_⟩
  rcases h2 (24 + t) (by omega) (by rw [dC_t e3 ht]; exact hd) with ⟨-, w, -⟩ | ⟨u, hu, w1, w2, k, w3, w4, w5⟩
  · have := w.1; omega
  · have w3' := w3
    obtain ⟨g, t', hg, ht', ⟨v1, v2, v3, v4⟩ | ⟨v1, v2, v3, v4⟩⟩ := w3
    · subst v1 v4
      have : t' = t := by omega
      subst this
      have hle := hF _ _ _ w3' w4
      rw [dC_g hg] at w4 w5 hle
      rw [dC_t e3 ht] at w5 hle
      rw [pC_t e3] at w1
      refine ⟨u, hg, w1, v3, w4, by omega, w2, ?_⟩
      rcases h2 u (by omega) (by rw [dC_g hg]; exact w4) with ⟨y1, y2, y3⟩ | ⟨u2, hu2, y1, y2, k2, y3, y4, y5⟩
      · rw [pC_g hg] at y1
        rw [dC_g hg] at y3
        refine Or.inl ⟨?_, y2.2, y3⟩
        by_cases c : m 57 u = -1
        · exact c
        · rw [if_neg c] at y1
          by_cases c2 : m 57 u < 0
          · rw [if_pos c2] at y1; exact absurd y1 (by decide)
          · rw [if_neg c2] at y1; omega
      · obtain ⟨g2, t2, hg2, ht2, ⟨z1, z2, z3, z4⟩ | ⟨z1, z2, z3, z4⟩⟩ := y3
        · omega
        · subst z1 z2
          rw [pC_g hg] at y1
          rw [dC_t e3 ht2] at y4
          refine Or.inr ⟨t2, ht2, ?_, z3, y4, y2⟩
          by_cases c : m 57 u = -1
          · rw [if_pos c] at y1; omega
          · rw [if_neg c] at y1
            by_cases c2 : m 57 u < 0
            · rw [if_pos c2] at y1; omega
            · rw [if_neg c2] at y1; omega
    · omega
/-- what can go by the way from t -/
def CapC (G T : Nat) (m : Mem) (y : Int) : Nat → Nat → Prop
  | 0, _ => False
  | k + 1, t => ∃ g : Nat, g < G ∧ m 58 t = g ∧ ((m 57 g = -1 ∧ y ≤ m 51 g) ∨ ∃ t2 : Nat, t2 < T ∧ m 57 g = t2 ∧ y ≤ fC m g t2 ∧ CapC G T m y k t2)
theorem sp_amt {m : Mem} {G T : Nat} (hE : EmD m G T) {pos : Nat → Nat} (hpos : ∀ x : Nat, x < 48 → pos x < 48) (hch : ∀ t : Nat, t < T → m 56 t < 1000000 → ∃ g : Nat, g < G ∧ m 58 t = g ∧ opC m g t ∧ m 55 g < 1000000 ∧ m 56 t = m 55 g + cC53 m g t ∧ pos g < pos (24 + t) ∧ ((m 57 g = -1 ∧ 0 < m 51 g ∧ m 55 g = 0) ∨ ∃ t2 : Nat, t2 < T ∧ m 57 g = t2 ∧ 0 < fC m g t2 ∧ m 56 t2 < 1000000 ∧ pos (24 + t2) < pos g)) {last : Nat} (hl : last < T) (hd : m 56 last < 1000000) (hw : 0 < m 52 last) {post : Int → Mem → Prop} (H : ∀ (y : Int) (k : Nat), 0 < y → y ≤ m 52 last → CapC G T m y k last → post y m) : wp_X2_amountTo last m post := by
  obtain ⟨e1, e2, e3, e4, e5, e6⟩ := hE
  have key : ∀ (k t : Nat) (v4 : Nat) (x : Int) (post : Int → Mem → Prop), pos (24 + t) < k → t < T → m 56 t < 1000000 → 0 < x → pos (24 + t) + 2 * v4 ≤ 47 → (∀ (y : Int) (k : Nat), 0 < y → y ≤ x → CapC G T m y k t → post y m) → wp_X2_amountTo_12 post (k + 1) x t v4 m := by
    intro k
    induction k with
    | zero => intro t v4 x post h; omega
    | succ k ih =>
      intro t v4 x post hk ht hd hx hv hp
      obtain ⟨g, hg, c1, c2, c3, c4, c5, c6⟩ := hch t ht hd
      have cg : 0 ≤ (g : Int) ∧ (g : Int) < 24 := by omega
      have ct : 0 ≤ (t : Int) ∧ (t : Int) < 24 := by omega
      unfold wp_X2_amountTo_12
      rw [i1 v4 (by omega)]
      refine bf (by omega) (bf (by omega) ⟨ct, eqm ?_⟩)
      rw [c1]
      refine nt (by omega) ⟨cg, eqm ?_⟩
      rcases c6 with ⟨q1, q2, q3⟩ | ⟨t2, ht2, q1, q2, q3, q4⟩
      · rw [q1]
        refine nf rfl ⟨cg, eqm ?_⟩
        have hy : 0 < (if m 51 g < x then m 51 g else x) ∧ (if m 51 g < x then m 51 g else x) ≤ x ∧ (if m 51 g < x then m 51 g else x) ≤ m 51 g := by
          by_cases c : m 51 g < x
          · rw [if_pos c]; omega
          · rw [if_neg c]; omega
        have fin := hp _ 1 hy.1 hy.2.1 ⟨g, hg, c1, Or.inl ⟨q1, hy.2.2⟩⟩
        unfold wp_X2_amountTo_12
        exact ⟨fun _ => fin, fun _ => bt rfl fin⟩
      · obtain ⟨x1, x2⟩ := ix24 cg (show 0 ≤ (t2 : Int) ∧ (t2 : Int) < 24 by omega)
        rw [q1, x1]
        clear x1
        refine nt (by omega) ⟨x2, eqm ?_⟩
        have hf : m 54 (24 * (g : Int) + t2) = fC m g t2 := rfl
        rw [hf]
        have hy : 0 < (if fC m g t2 < x then fC m g t2 else x) ∧ (if fC m g t2 < x then fC m g t2 else x) ≤ x ∧ (if fC m g t2 < x then fC m g t2 else x) ≤ fC m g t2 := by
          by_cases c : fC m g t2 < x
          · rw [if_pos c]; omega
          · rw [if_neg c]; omega
        exact ih t2 (v4 + 1) _ post (by omega) ht2 q3 hy.1 (by omega) (fun y k' y0 y1 hc => hp y (k' + 1) y0 (by omega) ⟨g, hg, c1, Or.inr ⟨t2, ht2, q1, by omega, hc⟩⟩)
  have hp := hpos (24 + last) (by omega)
  exact ⟨by omega, eqm ⟨_, key (pos (24 + last) + 1) last 0 (m 52 last) post (by omega) hl hd hw (by omega) H⟩⟩
theorem le_sumg {g : Nat → Int} {i : Nat} : ∀ n : Nat, i < n → (∀ x : Nat, x < n → 0 ≤ g x) → g i ≤ sumg g n
  | 0, hi, _ => by omega
  | n + 1, hi, h => by
    have h0 := h n (by omega)
    have h1 := sumg_n n (fun x hx => h x (by omega))
    unfold sumg
    by_cases e : i = n
    · subst e; omega
    · have := le_sumg n (show i < n by omega) (fun x hx => h x (by omega))
      omega
/-- nothing but what is sent, left and wanted has changed -/
def FrF (m0 m : Mem) : Prop := ∀ x i : Int, ¬ (x = 51 ∨ x = 52 ∨ x = 54) → m x i = m0 x i
theorem fC_set {m : Mem} {g t x y : Nat} {v : Int} (ht : t < 24) (hy : y < 24) : fC (mset m 54 (24 * (g : Int) + t) v) x y = if x = g ∧ y = t then v else fC m x y := by
  unfold fC
  rw [mset_at]
  by_cases c : x = g ∧ y = t
  · rw [if_pos c, if_pos (by rw [c.1, c.2]; exact ⟨rfl, rfl⟩)]
  · rw [if_neg c, if_neg (by omega)]
theorem sp_sendC {m : Mem} {G T : Nat} (hE : EmD m G T) {pos : Nat → Nat} (hpos : ∀ x : Nat, x < 48 → pos x < 48) (hch : ∀ t : Nat, t < T → m 56 t < 1000000 → ∃ g : Nat, g < G ∧ m 58 t = g ∧ opC m g t ∧ m 55 g < 1000000 ∧ m 56 t = m 55 g + cC53 m g t ∧ pos g < pos (24 + t) ∧ ((m 57 g = -1 ∧ 0 < m 51 g ∧ m 55 g = 0) ∨ ∃ t2 : Nat, t2 < T ∧ m 57 g = t2 ∧ 0 < fC m g t2 ∧ m 56 t2 < 1000000 ∧ pos (24 + t2) < pos g)) {s dm pG pT : Nat → Int} (hs : ∀ g : Nat, g < G → s g ≤ 50) (hpG : ∀ g : Nat, g < G → m 55 g < 1000000 → pG g = m 55 g) (hpT : ∀ t : Nat, t < T → m 56 t < 1000000 → pT t = m 56 t) {am K : Int} (ham : 0 < am ∧ am ≤ 50) {w0 : Int → Int} {post : Mem → Prop} (H : ∀ m' : Mem, FrF m m' → m' 52 = w0 → SF G T (opC m) (cC53 m) s dm pG pT K (fun g => m' 51 g) (fun t => m' 52 t) (fC m') → (∀ g : Nat, g < G → m' 51 g ≤ m 51 g) → post m') : ∀ (k t v4 : Nat) (m' : Mem), CapC G T m am k t → t < T → m 56 t < 1000000 → pos (24 + t) + 2 * v4 ≤ 47 → FrF m m' → m' 52 = w0 → SI G T (opC m) (cC53 m) s dm pG pT am K (fun g => m' 51 g) (fun t => m' 52 t) (fC m') t → (∀ g : Nat, g < G → m' 51 g = m 51 g) → (∀ g : Nat, g < G → pos g < pos (24 + t) → ∀ y : Nat, y < T → fC m' g y = fC m g y) → wp_X2_send_15 post (k + 1) am t v4 m' := by
  obtain ⟨e1, e2, e3, e4, e5, e6⟩ := hE
  intro k
  induction k with
  | zero => intro t v4 m' h; exact absurd h id
  | succ k ih =>
    intro t v4 m' hcap ht hd hv hf hw0 hSI h51 hfr
    obtain ⟨g, hg, c1, c2, c3, c4, c5, c6⟩ := hch t ht hd
    obtain ⟨g', hg', c1', hor⟩ := hcap
    have : g' = g := by omega
    subst this
    have cg : 0 ≤ (g' : Int) ∧ (g' : Int) < 24 := by omega
    have ct : 0 ≤ (t : Int) ∧ (t : Int) < 24 := by omega
    have x2 := (ix24 cg ct).2
    have r58 : m' 58 t = g' := by rw [hf 58 t (by decide)]; exact c1
    have r57 : ∀ v i : Int, mset m' 54 i v 57 g' = m 57 g' := fun v i => by rw [mset_r (by decide)]; exact hf 57 g' (by decide)
    have hfb : ∀ x y : Nat, x < G → y < T → 0 ≤ fC m' x y ∧ fC m' x y ≤ 50 := fun x y hx hy => by
      have b1 := (hSI.2.2.1 x y hx hy).1
      have b2 := hSI.1 x hx
      have b3 := le_sumg (g := fun t => fC m' x t) (i := y) T hy (fun z hz => (hSI.2.2.1 x z hx hz).1)
      have b4 := hs x hx
      exact ⟨b1, by omega⟩
    have hb := hfb g' t hg ht
    have htight : pT t = pG g' + cC53 m g' t := by rw [hpT t ht hd, hpG g' hg c3]; exact c4
    have ef : m' 54 (24 * (g' : Int) + t) = fC m' g' t := rfl
    unfold wp_X2_send_15
    rw [i1 v4 (by omega), r58]
    refine bf (by omega) (bf (by omega) ⟨ct, eqm (nt (by omega) ?_)⟩)
    rw [(ix24 cg ct).1, ef, w32_i (x := fC m' g' t + am) (by omega)]
    refine ⟨x2, x2, eqm ⟨cg, eqm ?_⟩⟩
    rw [r57]
    have f1e : fC (mset m' 54 (24 * (g' : Int) + t) (fC m' g' t + am)) g' t = fC m' g' t + am := by rw [fC_set (by omega) (by omega), if_pos ⟨rfl, rfl⟩]
    have f1n : ∀ x y : Nat, x < G → y < T → ¬ (x = g' ∧ y = t) → fC (mset m' 54 (24 * (g' : Int) + t) (fC m' g' t + am)) x y = fC m' x y := fun x y _ hy hn => by rw [fC_set (by omega) (by omega), if_neg hn]
    rcases c6 with ⟨q1, q2, q3⟩ | ⟨t2, ht2, q1, q2, q3, q4⟩
    · have hcap2 : am ≤ m 51 g' := by
        rcases hor with w | ⟨t3, -, w, -⟩
        · exact w.2
        · omega
      rw [q1]
      refine nf rfl ⟨cg, cg, eqm ?_⟩
      have e51 : mset m' 54 (24 * (g' : Int) + t) (fC m' g' t + am) 51 = m' 51 := mset_r (by decide)
      have h51g := h51 g' hg
      have s50 : m' 51 g' ≤ 50 := by
        have b2 := hSI.1 g' hg
        have b3 := sumg_n (g := fun t => fC m' g' t) T (fun z hz => (hSI.2.2.1 g' z hg hz).1)
        have b4 := hs g' hg
        have b5 : m' 51 g' + sumg (fun t => fC m' g' t) T = s g' := b2.2
        omega
      rw [e51, w32_i (x := m' 51 g' - am) (by omega)]
      have fin : post (mset (mset m' 54 (24 * (g' : Int) + t) (fC m' g' t + am)) 51 g' (m' 51 g' - am)) := by
        have e54 : ∀ x y : Nat, fC (mset (mset m' 54 (24 * (g' : Int) + t) (fC m' g' t + am)) 51 g' (m' 51 g' - am)) x y = fC (mset m' 54 (24 * (g' : Int) + t) (fC m' g' t + am)) x y := fun x y => by
          unfold fC
          rw [mset_r (show ¬ (54 : Int) = 51 by decide)]
        have e52 : (fun t : Nat => mset (mset m' 54 (24 * (g' : Int) + t) (fC m' g' t + am)) 51 g' (m' 51 g' - am) 52 t) = fun t : Nat => m' 52 t := funext fun t => by
          rw [mset_r (show ¬ (52 : Int) = 51 by decide), mset_r (show ¬ (52 : Int) = 54 by decide)]
        refine H _ (fun x i hx => ?_) (by rw [mset_r (show ¬ (52 : Int) = 51 by decide), mset_r (show ¬ (52 : Int) = 54 by decide)]; exact hw0) ?_ (fun x hx => ?_)
        · rw [mset_ne (fun z => hx (by omega)), mset_ne (fun z => hx (by omega))]; exact hf x i hx
        · have := si_root ham.1 ht hSI hg c2 htight (by rw [hpG g' hg c3]; exact q3) (show am ≤ m' 51 g' by omega) (a' := fun x : Nat => mset (mset m' 54 (24 * (g' : Int) + t) (fC m' g' t + am)) 51 g' (m' 51 g' - am) 51 x) (f' := fC (mset (mset m' 54 (24 * (g' : Int) + t) (fC m' g' t + am)) 51 g' (m' 51 g' - am))) (mset_same _ _ _ _) (fun x _ hn => by
            show mset (mset m' 54 (24 * (g' : Int) + t) (fC m' g' t + am)) 51 g' (m' 51 g' - am) 51 x = m' 51 x
            rw [mset_ne (by omega), e51]) (by rw [e54, f1e]) (fun x y hx hy hn => by rw [e54, f1n x y hx hy hn])
          have e52' : (fun y : Nat => mset (mset m' 54 (24 * (g' : Int) + t) (fC m' g' t + am)) 51 g' (m' 51 g' - am) 52 y) = fun y : Nat => m' 52 y := funext fun y => by
            rw [mset_r (show ¬ (52 : Int) = 51 by decide), mset_r (show ¬ (52 : Int) = 54 by decide)]
          rw [e52']
          exact this
        · by_cases c : x = g'
          · rw [c, mset_same]; omega
          · rw [mset_ne (by omega), e51, h51 x hx]; exact Int.le_refl _
      unfold wp_X2_send_15
      exact ⟨fun _ => fin, fun _ => bt rfl fin⟩
    · obtain ⟨t3, ht3, w1, w2, w3⟩ : ∃ t3 : Nat, t3 < T ∧ m 57 g' = t3 ∧ am ≤ fC m g' t3 ∧ CapC G T m am k t3 := by
        rcases hor with w | w
        · omega
        · exact w
      have : t3 = t2 := by omega
      subst this
      have hne : t3 ≠ t := fun w => by subst w; omega
      have hfe := hfr g' hg c5 t3 ht3
      have ct3 : 0 ≤ (t3 : Int) ∧ (t3 : Int) < 24 := by omega
      have y2 := (ix24 cg ct3).2
      have hb3 := hfb g' t3 hg ht3
      have ef2 : mset m' 54 (24 * (g' : Int) + t) (fC m' g' t + am) 54 (24 * (g' : Int) + t3) = fC m' g' t3 := f1n g' t3 hg ht3 (fun z => hne z.2)
      rw [q1]
      refine nt (by omega) ?_
      rw [(ix24 cg ct3).1, ef2, w32_i (x := fC m' g' t3 - am) (by omega)]
      refine ⟨y2, y2, eqm ?_⟩
      have e51 : ∀ x : Int, mset (mset m' 54 (24 * (g' : Int) + t) (fC m' g' t + am)) 54 (24 * (g' : Int) + t3) (fC m' g' t3 - am) 51 x = m' 51 x := fun x => by rw [mset_r (by decide), mset_r (by decide)]
      have e52 : ∀ x : Int, mset (mset m' 54 (24 * (g' : Int) + t) (fC m' g' t + am)) 54 (24 * (g' : Int) + t3) (fC m' g' t3 - am) 52 x = m' 52 x := fun x => by rw [mset_r (by decide), mset_r (by decide)]
      have st := si_back ham.1 ht hSI hg ht3 hne c2 htight (by omega) (f1 := fC (mset m' 54 (24 * (g' : Int) + t) (fC m' g' t + am))) (f' := fC (mset (mset m' 54 (24 * (g' : Int) + t) (fC m' g' t + am)) 54 (24 * (g' : Int) + t3) (fC m' g' t3 - am))) f1e f1n (by rw [fC_set (by omega) (by omega), if_pos ⟨rfl, rfl⟩, f1n g' t3 hg ht3 (fun z => hne z.2)]; omega) (fun x y hx hy hn => by rw [fC_set (by omega) (by omega), if_neg hn])
      refine ih t3 (v4 + 1) _ w3 ht3 q3 (by omega) (fun x i hx => by rw [mset_ne (fun z => hx (by omega)), mset_ne (fun z => hx (by omega))]; exact hf x i hx) (by rw [mset_r (by decide), mset_r (by decide)]; exact hw0) ?_ (fun x hx => by rw [e51]; exact h51 x hx) (fun x hx hpx y hy => ?_)
      · rw [show (fun x : Nat => mset (mset m' 54 (24 * (g' : Int) + t) (fC m' g' t + am)) 54 (24 * (g' : Int) + t3) (fC m' g' t3 - am) 51 x) = fun x : Nat => m' 51 x from funext fun x => e51 x, show (fun x : Nat => mset (mset m' 54 (24 * (g' : Int) + t) (fC m' g' t + am)) 54 (24 * (g' : Int) + t3) (fC m' g' t3 - am) 52 x) = fun x : Nat => m' 52 x from funext fun x => e52 x]
        exact st
      · have hxg : ¬ x = g' := fun w => by subst w; omega
        rw [fC_set (by omega) (by omega), if_neg (fun z => hxg z.1), fC_set (by omega) (by omega), if_neg (fun z => hxg z.1)]
        exact hfr x hx (by omega) y hy
