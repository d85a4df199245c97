/-! crews: the class's way of counting the fewest -/
def dueB (x c v : Int) : Bool := decide (0 ≤ v ∧ v < 168 ∧ v % 24 = c ∧ bit x (v / 24 % 7) = 1)
abbrev dueD (x c v : Int) : Prop := dueB x c v = true
theorem dueD_m {x c v : Int} (h : 0 ≤ v ∧ v < 168 ∧ v % 24 = c ∧ bit x (v / 24 % 7) = 1) : dueD x c v := decide_eq_true h
theorem dueD_d {x c v : Int} (h : dueD x c v) : 0 ≤ v ∧ v < 168 ∧ v % 24 = c ∧ bit x (v / 24 % 7) = 1 := of_decide_eq_true h
def pq (x : Int) (q : Nat → Bool) : Nat → Int
  | 0 => 0
  | d + 1 => pq x q d + (if bit x d = 1 ∧ q d = true then 1 else 0)
theorem pq_r (x : Int) (q : Nat → Bool) : ∀ d : Nat, 0 ≤ pq x q d ∧ pq x q d ≤ d
  | 0 => by unfold pq; omega
  | d + 1 => by
    have ih := pq_r x q d
    unfold pq
    by_cases e : bit x d = 1 ∧ q d = true
    · rw [if_pos e]; omega
    · rw [if_neg e]; omega
theorem pq_lt (x c h : Int) (a : Bool) : ∀ D : Nat, pq x (fun d => decide (24 * (d : Int) + c < h + 1) && a) D = pq x (fun d => decide (24 * (d : Int) + c < h) && a) D + pq x (fun d => decide (24 * (d : Int) + c = h) && a) D
  | 0 => rfl
  | D + 1 => by
    have ih := pq_lt x c h a D
    unfold pq
    rw [ih]
    by_cases b : bit x D = 1
    · cases a with
      | false => simp
      | true =>
        simp only [b, true_and, Bool.and_true, decide_eq_true_eq]
        by_cases c1 : 24 * (D : Int) + c < h
        · rw [if_pos (by omega), if_pos c1, if_neg (by omega)]; omega
        · by_cases c2 : 24 * (D : Int) + c = h
          · rw [if_pos (by omega), if_neg c1, if_pos c2]; omega
          · rw [if_neg (by omega), if_neg c1, if_neg c2]; omega
    · rw [if_neg (fun z => b z.1), if_neg (fun z => b z.1), if_neg (fun z => b z.1)]; omega
theorem pq_eq1 {x c v : Int} (hc : 0 ≤ c ∧ c < 24) (a : Bool) : ∀ D : Nat, D ≤ 7 → pq x (fun d => decide (24 * (d : Int) + c = v) && a) D = if (dueD x c v ∧ v < 24 * D) ∧ a = true then 1 else 0
  | 0, _ => by
    rw [if_neg (fun z => by have h1 := (dueD_d z.1.1).1; have h2 := z.1.2; omega)]; rfl
  | D + 1, hD => by
    have ih := pq_eq1 (x := x) (v := v) hc a D (by omega)
    unfold pq
    rw [ih]
    by_cases e : 24 * (D : Int) + c = v
    · have e1 : v % 24 = c := by omega
      have e2 : v / 24 % 7 = (D : Int) := by omega
      rw [if_neg (fun z => by have h2 := z.1.2; omega)]
      by_cases b : bit x D = 1
      · cases a with
        | false => simp
        | true =>
          rw [if_pos ⟨b, by simp; exact e⟩, if_pos ⟨⟨dueD_m ⟨by omega, by omega, e1, by rw [e2]; exact b⟩, by omega⟩, rfl⟩]
          rfl
      · rw [if_neg (fun z => b z.1), if_neg (fun z => by have := (dueD_d z.1.1).2.2.2; rw [e2] at this; exact b this)]
        rfl
    · rw [if_neg (c := bit x D = 1 ∧ (decide (24 * (D : Int) + c = v) && a) = true) (fun z => by have := z.2; simp at this; exact e this.1), Int.add_zero]
      by_cases q : (dueD x c v ∧ v < 24 * D) ∧ a = true
      · rw [if_pos q, if_pos ⟨⟨q.1.1, by have := q.1.2; omega⟩, q.2⟩]
      · rw [if_neg q, if_neg (fun z => q ⟨⟨z.1.1, by
          have h1 := (dueD_d z.1.1).1
          have h2 := (dueD_d z.1.1).2.2.1
          have h3 := z.1.2
          omega⟩, z.2⟩)]
theorem pq_eq {x c v : Int} (hc : 0 ≤ c ∧ c < 24) (a : Bool) : pq x (fun d => decide (24 * (d : Int) + c = v) && a) 7 = if dueD x c v ∧ a = true then 1 else 0 := by
  rw [pq_eq1 hc a 7 (Nat.le_refl _)]
  by_cases q : dueD x c v ∧ a = true
  · rw [if_pos q, if_pos ⟨⟨q.1, by have := (dueD_d q.1).2.1; omega⟩, q.2⟩]
  · rw [if_neg q, if_neg (fun z => q ⟨z.1.1, z.2⟩)]
theorem pq_c {x : Int} {q q' : Nat → Bool} : ∀ D : Nat, (∀ d : Nat, d < D → q d = q' d) → pq x q D = pq x q' D
  | 0, _ => rfl
  | D + 1, h => by unfold pq; rw [pq_c D (fun d hd => h d (by omega)), h D (by omega)]
/-- duties, told by trains: those at y whose hour (w later than the begin) is before h -/
def cD (dy hr w : Nat → Int) (o : Nat → Nat) (K y : Nat) (h : Int) : Int := sumg (fun t => pq (dy t) (fun d => decide (24 * (d : Int) + (hr t + w t) < h) && decide (o t = y)) 7) K
def cE (dy hr w : Nat → Int) (o : Nat → Nat) (K y : Nat) (h : Int) : Int := sumg (fun t => if dueD (dy t) (hr t) (h - w t) ∧ o t = y then 1 else 0) K
theorem cD_s {dy hr w : Nat → Int} {o : Nat → Nat} {K : Nat} (hh : ∀ t : Nat, t < K → 0 ≤ hr t ∧ hr t < 24) (y : Nat) (h : Int) : cD dy hr w o K y (h + 1) = cD dy hr w o K y h + cE dy hr w o K y h := by
  unfold cD cE
  rw [← sumg_add]
  refine sumg_e K (fun t ht => ?_)
  show pq (dy t) (fun d => decide (24 * (d : Int) + (hr t + w t) < h + 1) && decide (o t = y)) 7 = _
  rw [pq_lt]
  have e : pq (dy t) (fun d => decide (24 * (d : Int) + (hr t + w t) = h) && decide (o t = y)) 7 = pq (dy t) (fun d => decide (24 * (d : Int) + hr t = h - w t) && decide (o t = y)) 7 := pq_c 7 (fun d _ => by
    rw [decide_eq_decide.mpr (show 24 * (d : Int) + (hr t + w t) = h ↔ 24 * (d : Int) + hr t = h - w t by omega)])
  rw [e, pq_eq (hh t ht)]
  by_cases q : dueD (dy t) (hr t) (h - w t) ∧ o t = y
  · rw [if_pos q, if_pos ⟨q.1, decide_eq_true q.2⟩]
  · rw [if_neg q, if_neg (fun z => q ⟨z.1, of_decide_eq_true z.2⟩)]
theorem cD_r {dy hr w : Nat → Int} {o : Nat → Nat} {K : Nat} (hK : K ≤ 12) (y : Nat) (h : Int) : 0 ≤ cD dy hr w o K y h ∧ cD dy hr w o K y h ≤ 84 := by
  have := sumg_b (g := fun t => pq (dy t) (fun d => decide (24 * (d : Int) + (hr t + w t) < h) && decide (o t = y)) 7) (B := 7) K (fun j _ => pq_r _ _ 7)
  unfold cD
  omega
theorem cD_0 {dy hr w : Nat → Int} {o : Nat → Nat} {K : Nat} (hh : ∀ t : Nat, t < K → 0 ≤ hr t ∧ 0 ≤ w t) (y : Nat) : cD dy hr w o K y 0 = 0 := by
  unfold cD
  refine sumg_0 K (fun t ht => ?_)
  have h0 := hh t ht
  have : ∀ D : Nat, pq (dy t) (fun d => decide (24 * (d : Int) + (hr t + w t) < 0) && decide (o t = y)) D = 0 := by
    intro D
    induction D with
    | zero => rfl
    | succ D ih =>
      unfold pq
      rw [ih, if_neg (fun z => by have := z.2; simp at this; omega)]
      rfl
  exact this 7
theorem sp_due {c : Mem} {v t : Int} (ht : 0 ≤ t ∧ t < 12) (hv : 0 ≤ v ∧ v < 168) {post : Int → Mem → Prop} (H1 : dueD (c 20 t) (c 21 t) v → post 1 c) (H0 : ¬ dueD (c 20 t) (c 21 t) v → post 0 c) : wp_X8_isDue t v c post :=
  sp_dueC (m := c) (fun _ _ _ => rfl) ht ⟨hv.1, by omega⟩ (fun z => H1 (dueD_m ⟨hv.1, hv.2, z⟩)) (fun z => H0 (fun q => z (dueD_d q).2.2))
/-- the trains of the class, as the counting wants them -/
def Trs (m : Mem) (K : Nat) (dy hr tk : Nat → Int) (fr to : Nat → Nat) (rest : Int) : Prop := m 13 0 = K ∧ m 13 1 = rest ∧ (0 ≤ rest ∧ rest ≤ 48) ∧ ∀ t : Nat, t < K → (m 20 t = dy t ∧ m 21 t = hr t ∧ m 18 t = tk t ∧ m 16 t = fr t ∧ m 17 t = to t) ∧ (0 ≤ hr t ∧ hr t < 24) ∧ (1 ≤ tk t ∧ tk t ≤ 48) ∧ fr t < 8 ∧ to t < 8
theorem mr27 {m : Mem} {g : Int → Int} {c : Int} (h : ¬ c = 27) : mrow m 27 g c = m c := mrow_ne h
theorem sumg_01 {g : Nat → Int} : ∀ n : Nat, (∀ x : Nat, x < n → g x = 0 ∨ g x = 1) → 0 ≤ sumg g n ∧ sumg g n ≤ n
  | 0, _ => by unfold sumg; omega
  | n + 1, h => by
    have ih := sumg_01 n (fun x hx => h x (by omega))
    have h1 := h n (by omega)
    unfold sumg
    omega
theorem cE_r (dy hr w : Nat → Int) (o : Nat → Nat) (K y : Nat) (h : Int) : 0 ≤ cE dy hr w o K y h ∧ cE dy hr w o K y h ≤ K := by
  unfold cE
  exact sumg_01 K (fun t _ => by
    by_cases q : dueD (dy t) (hr t) (h - w t) ∧ o t = y
    · exact Or.inr (if_pos q)
    · exact Or.inl (if_neg q))
theorem cE_s (dy hr w : Nat → Int) (o : Nat → Nat) (t y : Nat) (h : Int) : cE dy hr w o (t + 1) y h = cE dy hr w o t y h + (if dueD (dy t) (hr t) (h - w t) ∧ o t = y then 1 else 0) := rfl
theorem fc_v {h rest tk : Int} (hh : 0 ≤ h ∧ h < 168) (hr : 0 ≤ rest ∧ rest ≤ 48) (ht : 1 ≤ tk ∧ tk ≤ 48) : w32 (w32 (h - rest) - tk) = h - (tk + rest) := by
  rw [w32_i (x := h - rest) (by omega), w32_i (by omega)]
  omega
theorem sp_freeC {K : Nat} (hK : K ≤ 12) {m : Mem} {dy hr tk : Nat → Int} {fr to : Nat → Nat} {rest : Int} (hT : Trs m K dy hr tk fr to rest) {h : Int} (hh : 0 ≤ h ∧ h < 168) {g : Int → Int} (hg : ∀ y : Nat, y < 8 → 0 ≤ g y ∧ g y ≤ 1000) {post : Mem → Prop} (H : ∀ g' : Int → Int, (∀ y : Nat, y < 8 → g' y = g y + cE dy hr (fun t => tk t + rest) to K y h) → post (mrow m 27 g')) : wp_X8_freeCrewsAt h (mrow m 27 g) post := by
  have key : ∀ (rem t : Nat) (g' : Int → Int), t + rem = K → (∀ y : Nat, y < 8 → g' y = g y + cE dy hr (fun t => tk t + rest) to t y h) → wp_X8_freeCrewsAt_2 post (rem + 1) h t (mrow m 27 g') := by
    intro rem
    induction rem with
    | zero =>
      intro t g' ht hg'
      have : t = K := by omega
      subst this
      have h0 := hT.1
      unfold wp_X8_freeCrewsAt_2
      rw [mr27 (by decide), h0]
      exact bt (Int.le_refl _) (H g' hg')
    | succ rem ih =>
      intro t g' ht hg'
      obtain ⟨h0, hr1, hr2, ht3⟩ := hT
      obtain ⟨⟨f1, f2, f3, f4, f5⟩, hh24, htk, hfr, hto⟩ := ht3 t (by omega)
      have hs := ih (t + 1)
      have ct : 0 ≤ (t : Int) ∧ (t : Int) < 12 := by omega
      have hrem : t + 1 + rem = K := by omega
      have same : ¬ dueD (dy t) (hr t) (h - (tk t + rest)) → wp_X8_freeCrewsAt_2 post (rem + 1) h ((t + 1 : Nat) : Int) (mrow m 27 g') := fun q => hs g' hrem (fun y hy => by
        rw [cE_s, if_neg (fun z => q z.1), Int.add_zero]
        exact hg' y hy)
      unfold wp_X8_freeCrewsAt_2
      rw [mr27 (c := 13) (by decide), mr27 (c := 18) (by decide), h0, hr1, f3, fc_v hh hr2 htk, i1 t (by omega)]
      refine bf (by omega) ⟨ct, eqm ⟨fun q => same (fun z => ?_), fun q => sp_due ct ⟨by omega, by omega⟩ (fun z => z1 ?_) (fun z => z0 ?_)⟩⟩
      · have := (dueD_d z).1; omega
      · rw [mr27 (by decide), mr27 (by decide), f1, f2] at z
        have hy := hg' (to t) hto
        have h1 := hg (to t) hto
        have h2 := cE_r dy hr (fun t => tk t + rest) to t (to t) h
        rw [mr27 (c := 17) (by decide), f5]
        refine ⟨ct, by omega, by omega, eqm ?_⟩
        rw [mrow_set]
        refine hs _ (by omega) (fun y hy8 => ?_)
        rw [cE_s, mrow_s]
        by_cases e : y = to t
        · rw [rset_eq (by rw [e]), if_pos ⟨z, e.symm⟩, e, w32_i (by omega), hy]; omega
        · rw [rset_ne (by omega), if_neg (fun w => e w.2.symm), hg' y hy8]; omega
      · rw [mr27 (by decide), mr27 (by decide), f1, f2] at z
        exact same z
  exact ⟨K + 1, key K 0 g (by omega) (fun y _ => by show g y = g y + 0; omega)⟩
theorem sp_startC {K : Nat} (hK : K ≤ 12) {m : Mem} {dy hr tk : Nat → Int} {fr to : Nat → Nat} {rest : Int} (hT : Trs m K dy hr tk fr to rest) {h : Int} (hh : 0 ≤ h ∧ h < 168) {g : Int → Int} (hg : ∀ y : Nat, y < 8 → 0 ≤ g y ∧ g y ≤ 2000) {post : Int → Mem → Prop} (H : ∀ (g' : Int → Int) (D : Nat → Int), (0 ≤ sumg D 8 ∧ sumg D 8 ≤ K) → (∀ y : Nat, y < 8 → g' y = g y - cE dy hr (fun _ => 0) fr K y h + D y ∧ 0 ≤ g' y ∧ 0 ≤ D y ∧ (0 < D y → g' y = 0)) → post (sumg D 8) (mrow m 27 g')) : wp_X8_crewsStartedAt h (mrow m 27 g) post := by
  have key : ∀ (rem t : Nat) (g' : Int → Int) (D : Nat → Int), t + rem = K → (0 ≤ sumg D 8 ∧ sumg D 8 ≤ t) → (∀ y : Nat, y < 8 → g' y = g y - cE dy hr (fun _ => 0) fr t y h + D y ∧ 0 ≤ g' y ∧ 0 ≤ D y ∧ (0 < D y → g' y = 0)) → wp_X8_crewsStartedAt_4 post (rem + 1) h (sumg D 8) t (mrow m 27 g') := by
    intro rem
    induction rem with
    | zero =>
      intro t g' D ht hD hg'
      have : t = K := by omega
      subst this
      have h0 := hT.1
      unfold wp_X8_crewsStartedAt_4
      rw [mr27 (by decide), h0]
      exact bt (Int.le_refl _) (H g' D hD hg')
    | succ rem ih =>
      intro t g' D ht hD hg'
      obtain ⟨h0, hr1, hr2, ht3⟩ := hT
      obtain ⟨⟨f1, f2, f3, f4, f5⟩, hh24, htk, hfr, hto⟩ := ht3 t (by omega)
      have hs := ih (t + 1)
      have ct : 0 ≤ (t : Int) ∧ (t : Int) < 12 := by omega
      have c8 : 0 ≤ (fr t : Int) ∧ (fr t : Int) < 8 := by omega
      have hy := hg' (fr t) hfr
      have hyg := hg (fr t) hfr
      have hyc := cE_r dy hr (fun _ => 0) fr t (fr t) h
      unfold wp_X8_crewsStartedAt_4
      rw [mr27 (c := 13) (by decide), h0, i1 t (by omega)]
      refine bf (by omega) (sp_due ct hh (fun z => n1 ?_) (fun z => n0 ?_))
      · rw [mr27 (by decide), mr27 (by decide), f1, f2] at z
        have z' : dueD (dy t) (hr t) (h - 0) := by rw [Int.sub_zero]; exact z
        rw [mr27 (c := 16) (by decide), f4, mrow_s]
        refine ⟨ct, c8, fun q => ?_, fun q => ⟨ct, c8, c8, eqm ?_⟩⟩
        · have g0 : g' (fr t) = 0 := by omega
          have e1 := sumg_1 (g := D) (g' := fun y => if y = fr t then D y + 1 else D y) (i := fr t) 8 hfr (if_pos rfl) (fun x _ hx => if_neg hx)
          rw [w32_i (x := sumg D 8 + 1) (by omega), ← e1]
          refine hs g' _ (by omega) (by rw [e1]; omega) (fun y hy8 => ?_)
          have hy' := hg' y hy8
          rw [cE_s]
          by_cases e : y = fr t
          · subst e
            rw [if_pos rfl, if_pos ⟨z', rfl⟩]
            exact ⟨by omega, by omega, by omega, fun _ => g0⟩
          · rw [if_neg e, if_neg (fun w => e w.2.symm), Int.add_zero]
            exact hy'
        · rw [mrow_set]
          refine hs _ D (by omega) (by omega) (fun y hy8 => ?_)
          have hy' := hg' y hy8
          rw [cE_s]
          by_cases e : y = fr t
          · have d0 : ¬ 0 < D (fr t) := fun w => by have := hy.2.2.2 w; omega
            subst e
            rw [rset_eq rfl, if_pos ⟨z', rfl⟩, w32_i (by omega)]
            exact ⟨by omega, by omega, by omega, fun w => absurd w d0⟩
          · rw [rset_ne (by omega), if_neg (fun w => e w.2.symm), Int.add_zero]
            exact hy'
      · rw [mr27 (by decide), mr27 (by decide), f1, f2] at z
        refine hs g' D (by omega) (by omega) (fun y hy8 => ?_)
        rw [cE_s, if_neg (fun w => z (by have := w.1; rw [Int.sub_zero] at this; exact this)), Int.add_zero]
        exact hg' y hy8
  have e0 : sumg (fun _ => 0) 8 = 0 := rfl
  have := key K 0 g (fun _ => 0) (by omega) (by rw [e0]; omega) (fun y hy8 => by
    have := hg y hy8
    exact ⟨by show g y = g y - 0 + 0; omega, this.1, Int.le_refl _, fun w => absurd w (by decide)⟩)
  rw [e0] at this
  exact ⟨K + 1, this⟩
def FewX (S A : Nat → Int → Int) (h : Int) (X : Nat → Int) : Prop := ∀ y : Nat, y < 8 → (∃ T : Int, X y = S y T - A y T) ∧ ∀ T : Int, 0 ≤ T → T ≤ h → S y T - A y T ≤ X y
theorem sp_fewC {K : Nat} (hK : K ≤ 12) {m : Mem} {dy hr tk : Nat → Int} {fr to : Nat → Nat} {rest : Int} (hT : Trs m K dy hr tk fr to rest) {post : Int → Mem → Prop} (H : ∀ (g : Int → Int) (X : Nat → Int), FewX (cD dy hr (fun _ => 0) fr K) (cD dy hr (fun t => tk t + rest) to K) 168 X → post (sumg X 8) (mrow m 27 g)) : wp_X8_fewestCrews m post := by
  have h24 : ∀ t : Nat, t < K → 0 ≤ hr t ∧ hr t < 24 := fun t ht => (hT.2.2.2 t ht).2.1
  have hrest := hT.2.2.1
  have hAs := fun (y : Nat) (h : Int) => cD_s (dy := dy) (hr := hr) (w := fun t => tk t + rest) (o := to) h24 y h
  have hSs := fun (y : Nat) (h : Int) => cD_s (dy := dy) (hr := hr) (w := fun _ => 0) (o := fr) h24 y h
  have hAr := fun (y : Nat) (h : Int) => cD_r (dy := dy) (hr := hr) (w := fun t => tk t + rest) (o := to) hK y h
  have hSr := fun (y : Nat) (h : Int) => cD_r (dy := dy) (hr := hr) (w := fun _ => 0) (o := fr) hK y h
  have hA0 := fun (y : Nat) => cD_0 (dy := dy) (hr := hr) (w := fun t => tk t + rest) (o := to) (K := K) (fun t ht => ⟨(h24 t ht).1, by have := (hT.2.2.2 t ht).2.2.1; show 0 ≤ tk t + rest; omega⟩) y
  have hS0 := fun (y : Nat) => cD_0 (dy := dy) (hr := hr) (w := fun _ => 0) (o := fr) (K := K) (fun t ht => ⟨(h24 t ht).1, Int.le_refl _⟩) y
  have key : ∀ (rem h : Nat) (g : Int → Int) (X : Nat → Int), h + rem = 168 → (0 ≤ sumg X 8 ∧ sumg X 8 ≤ 12 * (h : Int)) → FewX (cD dy hr (fun _ => 0) fr K) (cD dy hr (fun t => tk t + rest) to K) h X → (∀ y : Nat, y < 8 → g y = cD dy hr (fun t => tk t + rest) to K y h - cD dy hr (fun _ => 0) fr K y h + X y ∧ 0 ≤ g y) → wp_X8_fewestCrews_12 post (rem + 1) (sumg X 8) h (mrow m 27 g) := by
    intro rem
    induction rem with
    | zero =>
      intro h g X hh _ hX _
      have : h = 168 := by omega
      subst this
      unfold wp_X8_fewestCrews_12
      exact bt (by decide) (H g X hX)
    | succ rem ih =>
      intro h g X hh hXs hX hg
      have hh' : 0 ≤ (h : Int) ∧ (h : Int) < 168 := by omega
      have hXb : ∀ y : Nat, y < 8 → X y ≤ 84 := fun y hy => by
        obtain ⟨⟨T, hT⟩, -⟩ := hX y hy
        have h1 := hAr y T
        have h2 := hSr y T
        omega
      unfold wp_X8_fewestCrews_12
      refine bf (by omega) (sp_freeC hK hT hh' (fun y hy => ?_) (fun g1 hg1 => sp_startC hK hT hh' (fun y hy => ?_) (fun g2 D hD hg2 => eqm ?_)))
      · have h1 := hAr y h
        have h2 := hSr y h
        have h3 := hg y hy
        have h4 := hXb y hy
        omega
      · have h1 := hAr y h
        have h2 := hSr y h
        have h3 := hg y hy
        have h4 := hXb y hy
        have h5 := hg1 y hy
        have h6 := cE_r dy hr (fun t => tk t + rest) to K y h
        omega
      · have e1 := sumg_add X D 8
        rw [w32_i (by omega), i1 h (by omega), ← e1]
        refine ih (h + 1) g2 _ (by omega) (by rw [e1]; omega) (fun y hy => ?_) (fun y hy => ?_)
        · obtain ⟨⟨T, hT⟩, hle⟩ := hX y hy
          have h5 := hg1 y hy
          have h6 := hg2 y hy
          have h3 := hg y hy
          have a1 := hAs y h
          have a2 := hSs y h
          refine ⟨?_, fun T' t0 t1 => ?_⟩
          · by_cases c : 0 < D y
            · refine ⟨(h : Int) + 1, ?_⟩
              have := h6.2.2.2 c
              show X y + D y = _
              omega
            · refine ⟨T, ?_⟩
              show X y + D y = _
              omega
          · show _ ≤ X y + D y
            by_cases c : T' ≤ h
            · have := hle T' t0 c
              omega
            · rw [show T' = (h : Int) + 1 by omega]
              omega
        · have h5 := hg1 y hy
          have h6 := hg2 y hy
          have h3 := hg y hy
          have a1 := hAs y h
          have a2 := hSs y h
          have ec : (((h + 1 : Nat) : Int)) = (h : Int) + 1 := rfl
          rw [ec]
          show g2 y = _ - _ + (X y + D y) ∧ _
          omega
  unfold wp_X8_fewestCrews
  refine sp_fill (N := 8) rfl (by decide) (by decide) ?_
  have e27 : mfill m 27 0 8 0 = mrow m 27 (fun i => if 0 ≤ i ∧ i < 8 then 0 else m 27 i) := by
    funext c i
    unfold mfill mrow
    by_cases e : c = 27
    · subst e
      by_cases q : 0 ≤ i ∧ i < 8
      · rw [if_pos ⟨rfl, q⟩, if_pos rfl]; exact (if_pos q).symm
      · rw [if_neg (fun z => q z.2), if_pos rfl]; exact (if_neg q).symm
    · rw [if_neg (fun z => e z.1), if_neg e]
  rw [e27]
  have e0 : sumg (fun _ => 0) 8 = 0 := rfl
  have := key 168 0 (fun i => if 0 ≤ i ∧ i < 8 then 0 else m 27 i) (fun _ => 0) (by omega) (by rw [e0]; omega) (fun y hy => ⟨⟨0, by rw [hA0, hS0]; rfl⟩, fun T t0 t1 => by
    have : T = 0 := by omega
    rw [this, hA0, hS0]
    exact Int.le_refl _⟩) (fun y hy => by
    have a := hA0 y
    have b := hS0 y
    show (if 0 ≤ (y : Int) ∧ (y : Int) < 8 then 0 else m 27 y) = cD dy hr (fun t => tk t + rest) to K y 0 - cD dy hr (fun _ => 0) fr K y 0 + 0 ∧ _
    rw [if_pos (by omega), a, b]
    exact ⟨rfl, Int.le_refl _⟩)
  rw [e0] at this
  exact ⟨169, this⟩
