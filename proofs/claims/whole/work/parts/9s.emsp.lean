/-! least: the class's labels -/
def opC (m : Mem) (g t : Nat) : Prop := m 53 (24 * (g : Int) + t) < 1000000
def fC (m : Mem) (g t : Nat) : Int := m 54 (24 * (g : Int) + t)
def cC53 (m : Mem) (g t : Nat) : Int := m 53 (24 * (g : Int) + t)
def dC (G T : Nat) (m : Mem) (x : Nat) : Int := if x < G then m 55 x else if 24 ≤ x ∧ x < 24 + T then m 56 ((x : Int) - 24) else 1000000
def pC (G : Nat) (m : Mem) (x : Nat) : Int := if x < G then (if m 57 x = -1 then -1 else if m 57 x < 0 then -2 else m 57 x + 24) else m 58 ((x : Int) - 24)
def ArC (G T : Nat) (m : Mem) (u v : Nat) (k : Int) : Prop := ∃ g t : Nat, g < G ∧ t < T ∧ ((u = g ∧ v = 24 + t ∧ opC m g t ∧ k = cC53 m g t) ∨ (u = 24 + t ∧ v = g ∧ 0 < fC m g t ∧ k = -cC53 m g t))
def rtC (G : Nat) (m : Mem) (x : Nat) : Prop := x < G ∧ 0 < m 51 x
def pxC (pG pT : Nat → Int) (x : Nat) : Int := if x < 24 then pG x else pT (x - 24)
theorem dC_g {G T : Nat} {m : Mem} {g : Nat} (h : g < G) : dC G T m g = m 55 g := if_pos h
theorem dC_t {G T : Nat} {m : Mem} {t : Nat} (hG : G ≤ 24) (h : t < T) : dC G T m (24 + t) = m 56 t := by
  unfold dC
  rw [if_neg (by omega), if_pos (by omega)]
  congr 1
  omega
theorem pC_g {G : Nat} {m : Mem} {g : Nat} (h : g < G) : pC G m g = if m 57 g = -1 then -1 else if m 57 g < 0 then -2 else m 57 g + 24 := if_pos h
theorem pC_t {G : Nat} {m : Mem} {t : Nat} (hG : G ≤ 24) : pC G m (24 + t) = m 58 t := by
  unfold pC
  rw [if_neg (by omega)]
  congr 1
  omega
theorem px_g {pG pT : Nat → Int} {g : Nat} (h : g < 24) : pxC pG pT g = pG g := if_pos h
theorem px_t {pG pT : Nat → Int} {t : Nat} : pxC pG pT (24 + t) = pT t := by
  unfold pxC
  rw [if_neg (by omega), show 24 + t - 24 = t by omega]
/-- nothing but labels has changed -/
def FrE (m0 m : Mem) : Prop := ∀ x i : Int, ¬ (x = 55 ∨ x = 56 ∨ x = 57 ∨ x = 58) → m x i = m0 x i
/-- the class's numbers for least -/
def EmD (m : Mem) (G T : Nat) : Prop := m 47 2 = G ∧ m 47 3 = T ∧ G ≤ 24 ∧ T ≤ 24 ∧ G + T ≤ 24 ∧ (∀ g t : Nat, g < G → t < T → (opC m g t ∧ 0 ≤ cC53 m g t ∧ cC53 m g t ≤ 1000) ∨ cC53 m g t = 1000000)
theorem emd_fr {m0 m : Mem} {G T : Nat} (hf : FrE m0 m) (h : EmD m0 G T) : EmD m G T := by
  have e53 : m 53 = m0 53 := funext fun i => hf 53 i (by decide)
  unfold EmD opC cC53 at h ⊢
  rw [hf 47 2 (by decide), hf 47 3 (by decide), e53]
  exact h
theorem lgC {m : Mem} {G T : Nat} (hE : EmD m G T) {s dm : Nat → Int} {pG pT : Nat → Int} (hF : FLw G T (opC m) s dm (fun g => m 51 g) (fun t => m 52 t) (fC m)) (hP : PTd G T (opC m) (cC53 m) s pG pT) (hQ : PTt G T (cC53 m) (fun g => m 51 g) (fC m) pG pT) : LG 48 (ArC G T m) (rtC G m) (pxC pG pT) := by
  obtain ⟨h1, h2, h3, h4, h5, h6⟩ := hE
  refine ⟨fun u v k hA => ?_, fun x hx hr => ?_⟩
  · obtain ⟨g, t, hg, ht, q | q⟩ := hA
    · obtain ⟨q1, q2, q3, q4⟩ := q
      subst q1 q2 q4
      rw [px_t, px_g (by omega)]
      have := hP.1 u t hg ht q3
      rcases h6 u t hg ht with w | w
      · exact ⟨by omega, by omega, by omega, this⟩
      · unfold opC at q3; unfold cC53 at w; omega
    · obtain ⟨q1, q2, q3, q4⟩ := q
      subst q1 q2 q4
      rw [px_t, px_g (by omega)]
      have e := hQ.1 v t hg ht q3
      have ho := (hF.2.2 v t hg ht).2 q3
      rcases h6 v t hg ht with w | w
      · exact ⟨by omega, by omega, by omega, by omega⟩
      · unfold opC at ho; unfold cC53 at w; omega
  · rw [px_g (by have := hr.1; omega)]
    exact hQ.2 x hr.1 hr.2
theorem arC_fr {m0 m : Mem} (hf : FrE m0 m) (G T : Nat) : ArC G T m = ArC G T m0 := by
  have e53 : m 53 = m0 53 := funext fun i => hf 53 i (by decide)
  have e54 : m 54 = m0 54 := funext fun i => hf 54 i (by decide)
  funext u v k
  unfold ArC opC fC cC53
  rw [e53, e54]
theorem ix24 {g t : Int} (hg : 0 ≤ g ∧ g < 24) (ht : 0 ≤ t ∧ t < 24) : w32 (w32 (g * 24) + t) = 24 * g + t ∧ (0 ≤ 24 * g + t ∧ 24 * g + t < 576) := by
  refine ⟨?_, by omega⟩
  rw [w32_i (x := g * 24) (by omega), w32_i (by omega)]
  omega
/-- the labels stand, and above the last ones e -/
def SpI (m0 : Mem) (G T : Nat) (p e : Nat → Int) (m : Mem) : Prop := FrE m0 m ∧ (∃ rk : Nat → Nat, LV 48 (ArC G T m0) (rtC G m0) p 1000000 (dC G T m) (pC G m) rk) ∧ ∀ x : Nat, x < 48 → e x ≤ dC G T m x
theorem sp_rel {m0 : Mem} {G T : Nat} (hE : EmD m0 G T) {p e : Nat → Int} (hG : LG 48 (ArC G T m0) (rtC G m0) p) (he : LF (ArC G T m0) 1000000 e) {m : Mem} (h : SpI m0 G T p e m) {g t : Nat} (hg : g < G) (ht : t < T) :
    (opC m0 g t → m 55 g < 1000000 → m 55 g + cC53 m0 g t < m 56 t → SpI m0 G T p e (mset (mset m 56 t (m 55 g + cC53 m0 g t)) 58 t g)) ∧ (0 < fC m0 g t → m 56 t < 1000000 → m 56 t - cC53 m0 g t < m 55 g → SpI m0 G T p e (mset (mset m 55 g (m 56 t - cC53 m0 g t)) 57 g t)) := by
  obtain ⟨e1, e2, e3, e4, e5, e6⟩ := hE
  obtain ⟨hf, ⟨rk, hL⟩, hle⟩ := h
  refine ⟨fun ho hd hlt => ?_, fun ho hd hlt => ?_⟩
  · have hA : ArC G T m0 g (24 + t) (cC53 m0 g t) := ⟨g, t, hg, ht, Or.inl ⟨rfl, rfl, ho, rfl⟩⟩
    have eN : ∀ x : Nat, x ≠ 24 + t → dC G T (mset (mset m 56 t (m 55 g + cC53 m0 g t)) 58 t g) x = dC G T m x := fun x hx => by
      unfold dC
      rw [mset_r (show ¬ (55 : Int) = 58 by decide), mset_r (show ¬ (55 : Int) = 56 by decide), mset_r (show ¬ (56 : Int) = 58 by decide)]
      by_cases c1 : x < G
      · rw [if_pos c1, if_pos c1]
      · rw [if_neg c1, if_neg c1]
        by_cases c2 : 24 ≤ x ∧ x < 24 + T
        · rw [if_pos c2, if_pos c2, mset_ne (by omega)]
        · rw [if_neg c2, if_neg c2]
    have eV : dC G T (mset (mset m 56 t (m 55 g + cC53 m0 g t)) 58 t g) (24 + t) = dC G T m g + cC53 m0 g t := by
      rw [dC_t e3 ht, dC_g hg, mset_r (show ¬ (56 : Int) = 58 by decide), mset_same]
    obtain ⟨rk', hL'⟩ := lv_relax (by decide) (by decide) hG hL hA (by rw [dC_g hg]; exact hd) (by rw [dC_g hg, dC_t e3 ht]; exact hlt) (d' := dC G T (mset (mset m 56 t (m 55 g + cC53 m0 g t)) 58 t g)) (par' := pC G (mset (mset m 56 t (m 55 g + cC53 m0 g t)) 58 t g)) eV (by rw [pC_t e3, mset_same]) eN (fun x hx => by
        unfold pC
        rw [mset_r (show ¬ (57 : Int) = 58 by decide), mset_r (show ¬ (57 : Int) = 56 by decide)]
        by_cases c1 : x < G
        · rw [if_pos c1, if_pos c1]
        · rw [if_neg c1, if_neg c1, mset_ne (by omega), mset_r (show ¬ (58 : Int) = 56 by decide)])
    refine ⟨fun x i hx => ?_, ⟨rk', hL'⟩, fun x hx => ?_⟩
    · rw [mset_ne (fun z => hx (by omega)), mset_ne (fun z => hx (by omega))]; exact hf x i hx
    · by_cases c : x = 24 + t
      · subst c
        rw [eV]
        have h1 := hle g (by omega)
        have h2 := he g (24 + t) _ hA (by rw [dC_g hg] at h1; omega)
        omega
      · rw [eN x c]; exact hle x hx
  · have hA : ArC G T m0 (24 + t) g (-cC53 m0 g t) := ⟨g, t, hg, ht, Or.inr ⟨rfl, rfl, ho, rfl⟩⟩
    have eN : ∀ x : Nat, x ≠ g → dC G T (mset (mset m 55 g (m 56 t - cC53 m0 g t)) 57 g t) x = dC G T m x := fun x hx => by
      unfold dC
      rw [mset_r (show ¬ (55 : Int) = 57 by decide), mset_r (show ¬ (56 : Int) = 57 by decide), mset_r (show ¬ (56 : Int) = 55 by decide)]
      by_cases c1 : x < G
      · rw [if_pos c1, if_pos c1, mset_ne (by omega)]
      · rw [if_neg c1, if_neg c1]
    have eV : dC G T (mset (mset m 55 g (m 56 t - cC53 m0 g t)) 57 g t) g = dC G T m (24 + t) + -cC53 m0 g t := by
      rw [dC_t e3 ht, dC_g hg, mset_r (show ¬ (55 : Int) = 57 by decide), mset_same]
      omega
    obtain ⟨rk', hL'⟩ := lv_relax (by decide) (by decide) hG hL hA (by rw [dC_t e3 ht]; exact hd) (by rw [dC_g hg, dC_t e3 ht]; omega) (d' := dC G T (mset (mset m 55 g (m 56 t - cC53 m0 g t)) 57 g t)) (par' := pC G (mset (mset m 55 g (m 56 t - cC53 m0 g t)) 57 g t)) eV (by rw [pC_g hg, mset_same, if_neg (by omega), if_neg (by omega)]; omega) eN (fun x hx => by
        unfold pC
        rw [mset_r (show ¬ (58 : Int) = 57 by decide), mset_r (show ¬ (58 : Int) = 55 by decide)]
        by_cases c1 : x < G
        · rw [if_pos c1, if_pos c1, mset_ne (by omega), mset_r (show ¬ (57 : Int) = 55 by decide)]
        · rw [if_neg c1, if_neg c1])
    refine ⟨fun x i hx => ?_, ⟨rk', hL'⟩, fun x hx => ?_⟩
    · rw [mset_ne (fun z => hx (by omega)), mset_ne (fun z => hx (by omega))]; exact hf x i hx
    · by_cases c : x = g
      · subst c
        rw [eV]
        have h1 := hle (24 + t) (by omega)
        have h2 := he (24 + t) x _ hA (by rw [dC_t e3 ht] at h1; omega)
        omega
      · rw [eN x c]; exact hle x hx
theorem spi_r {m0 : Mem} {G T : Nat} (hE : EmD m0 G T) {p e : Nat → Int} (hp0 : ∀ g : Nat, g < G → 0 ≤ p g) {m : Mem} (h : SpI m0 G T p e m) : (∀ g : Nat, g < G → 0 ≤ m 55 g ∧ m 55 g ≤ 1000000) ∧ ∀ t : Nat, t < T → 0 ≤ m 56 t ∧ m 56 t ≤ 1000000 := by
  obtain ⟨e1, e2, e3, e4, e5, e6⟩ := hE
  obtain ⟨hf, ⟨rk, hL⟩, hle⟩ := h
  have hg0 : ∀ g : Nat, g < G → 0 ≤ m 55 g ∧ m 55 g ≤ 1000000 := fun g hg => by
    have h2 := hL.1 g (by omega)
    have h3 := hp0 g hg
    rw [dC_g hg] at h2
    refine ⟨?_, h2.1⟩
    by_cases q : m 55 g < 1000000
    · have := (h2.2 q).1
      omega
    · omega
  refine ⟨hg0, fun t ht => ?_⟩
  have h2 := hL.1 (24 + t) (by omega)
  rw [dC_t e3 ht] at h2
  refine ⟨?_, h2.1⟩
  by_cases q : m 56 t < 1000000
  · rcases hL.2.1 (24 + t) (by omega) (by rw [dC_t e3 ht]; exact q) with w | ⟨u, hu, w1, k, w2, w3, w4, w5⟩
    · have := w.2.1.1
      omega
    · obtain ⟨g, t', hg, ht', v | v⟩ := w2
      · obtain ⟨v1, v2, v3, v4⟩ := v
        subst v1
        have : t' = t := by omega
        subst this
        rw [dC_g hg, dC_t e3 ht] at w4
        have h5 := hg0 u hg
        rcases e6 u t' hg ht with y | y
        · omega
        · unfold opC at v3; unfold cC53 at y; omega
      · omega
  · omega
