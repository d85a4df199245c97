/-! a row of wagons: one step of sorting -/
def cB (p : Nat → Bool) : Nat → Nat
  | 0 => 0
  | n + 1 => cB p n + (if p n = true then 1 else 0)
theorem cB_le (p : Nat → Bool) : ∀ n : Nat, cB p n ≤ n
  | 0 => Nat.le_refl _
  | n + 1 => by
    have ih := cB_le p n
    unfold cB
    by_cases h : p n = true
    · rw [if_pos h]; omega
    · rw [if_neg h]; omega
theorem cB_eq {p q : Nat → Bool} : ∀ n : Nat, (∀ x : Nat, x < n → p x = q x) → cB p n = cB q n
  | 0, _ => rfl
  | n + 1, h => by
    have ih := cB_eq n (fun x hx => h x (by omega))
    unfold cB
    rw [ih, h n (by omega)]
theorem cB_1 {p q : Nat → Bool} {i : Nat} (hp : p i = false) (hq : q i = true) : ∀ n : Nat, i < n → (∀ x : Nat, x < n → x ≠ i → p x = q x) → cB q n = cB p n + 1
  | 0, hi, _ => by omega
  | n + 1, hi, h => by
    unfold cB
    by_cases e : i = n
    · subst e
      rw [cB_eq i (fun x hx => (h x (by omega) (by omega)).symm), hp, hq]
      rfl
    · rw [cB_1 hp hq n (by omega) (fun x hx hn => h x (by omega) hn), h n (by omega) (by omega)]
      omega
theorem cB_all {p : Nat → Bool} : ∀ n : Nat, (∀ x : Nat, x < n → p x = true) → cB p n = n
  | 0, _ => rfl
  | n + 1, h => by unfold cB; rw [cB_all n (fun x hx => h x (by omega)), if_pos (h n (by omega))]
theorem cB_none {p : Nat → Bool} : ∀ n : Nat, (∀ x : Nat, x < n → p x = false) → cB p n = 0
  | 0, _ => rfl
  | n + 1, h => by unfold cB; rw [cB_none n (fun x hx => h x (by omega)), h n (by omega)]; rfl
/-- how many are put before the i-th one at track T is looked at -/
def cT (e : Nat → Int) (k : Nat) (T : Int) (i : Nat) : Nat := cB (fun x => decide (e x < T ∨ (e x = T ∧ x < i))) k
theorem cT_s {e : Nat → Int} {k i : Nat} {T : Int} (hi : i < k) (h : e i = T) : cT e k T (i + 1) = cT e k T i + 1 := by
  unfold cT
  refine cB_1 (i := i) (decide_eq_false (by omega)) (decide_eq_true (by omega)) k hi (fun x hx hn => ?_)
  exact decide_eq_decide.mpr (by omega)
theorem cT_n {e : Nat → Int} {k i : Nat} {T : Int} (h : ¬ e i = T) : cT e k T (i + 1) = cT e k T i := by
  unfold cT
  refine cB_eq k (fun x hx => decide_eq_decide.mpr ?_)
  by_cases q : x = i
  · rw [q]; omega
  · omega
theorem cT_t (e : Nat → Int) (k : Nat) (T : Int) : cT e k T k = cT e k (T + 1) 0 := by
  unfold cT
  exact cB_eq k (fun x hx => decide_eq_decide.mpr (by omega))
theorem cT_0 {e : Nat → Int} {k : Nat} (h : ∀ x : Nat, x < k → 0 ≤ e x) : cT e k 0 0 = 0 := by
  unfold cT
  exact cB_none k (fun x hx => decide_eq_false (by have := h x hx; omega))
theorem cT_e {e : Nat → Int} {k : Nat} {t : Int} (h : ∀ x : Nat, x < k → e x < t) : cT e k t 0 = k := by
  unfold cT
  exact cB_all k (fun x hx => decide_eq_true (Or.inl (h x hx)))
def rl1 (e S : Nat → Int) (T : Int) (i : Nat) (s : Int × (Int → Int)) : Int × (Int → Int) := if e i = T then (s.1 + 1, rset s.2 s.1 (S i)) else s
def rlI (e S : Nat → Int) (T : Int) : Nat → Int × (Int → Int) → Int × (Int → Int)
  | 0, s => s
  | i + 1, s => rl1 e S T i (rlI e S T i s)
def rlT (e S : Nat → Int) (k : Nat) : Nat → Int × (Int → Int) → Int × (Int → Int)
  | 0, s => s
  | T + 1, s => rlI e S T k (rlT e S k T s)
theorem rlI_c {e S : Nat → Int} {k : Nat} {T : Int} {s : Int × (Int → Int)} (hs : s.1 = cT e k T 0) : ∀ i : Nat, i ≤ k → (rlI e S T i s).1 = cT e k T i
  | 0, _ => hs
  | i + 1, hi => by
    have ih := rlI_c (S := S) hs i (by omega)
    show (rl1 e S T i (rlI e S T i s)).1 = _
    unfold rl1
    by_cases h : e i = T
    · rw [if_pos h, cT_s (by omega) h]; show (rlI e S T i s).1 + 1 = _; omega
    · rw [if_neg h, cT_n h]; exact ih
theorem rlT_c {e S : Nat → Int} {k : Nat} (he : ∀ x : Nat, x < k → 0 ≤ e x) {R : Int → Int} : ∀ T : Nat, (rlT e S k T (0, R)).1 = cT e k T 0
  | 0 => by rw [show (((0 : Nat) : Int)) = 0 from rfl, cT_0 he]; rfl
  | T + 1 => by
    have ih := rlT_c (S := S) he (R := R) T
    show (rlI e S T k (rlT e S k T (0, R))).1 = _
    rw [rlI_c ih k (Nat.le_refl _), cT_t]
    rfl
def AgP (s s' : Int × (Int → Int)) : Prop := s.1 = s'.1 ∧ 0 ≤ s.1 ∧ ∀ p : Int, 0 ≤ p → p < s.1 → s.2 p = s'.2 p
theorem rl1_ag {e S : Nat → Int} {T : Int} {i : Nat} {s s' : Int × (Int → Int)} (h : AgP s s') : AgP (rl1 e S T i s) (rl1 e S T i s') := by
  obtain ⟨h1, h2, h3⟩ := h
  unfold rl1
  by_cases q : e i = T
  · rw [if_pos q, if_pos q]
    refine ⟨by show s.1 + 1 = s'.1 + 1; omega, by show 0 ≤ s.1 + 1; omega, fun p p0 p1 => ?_⟩
    show rset s.2 s.1 (S i) p = rset s'.2 s'.1 (S i) p
    have p1' : p < s.1 + 1 := p1
    by_cases z : p = s.1
    · rw [rset_eq z, rset_eq (by omega)]
    · rw [rset_ne z, rset_ne (by omega)]; exact h3 p p0 (by omega)
  · rw [if_neg q, if_neg q]; exact ⟨h1, h2, h3⟩
theorem rlI_ag {e S : Nat → Int} {T : Int} {s s' : Int × (Int → Int)} (h : AgP s s') : ∀ i : Nat, AgP (rlI e S T i s) (rlI e S T i s')
  | 0 => h
  | i + 1 => rl1_ag (rlI_ag h i)
theorem rlT_ag {e S : Nat → Int} {k : Nat} {s s' : Int × (Int → Int)} (h : AgP s s') : ∀ T : Nat, AgP (rlT e S k T s) (rlT e S k T s')
  | 0 => h
  | T + 1 => rlI_ag (rlT_ag h T) k
def RgP (k : Nat) (s : Int × (Int → Int)) : Prop := 0 ≤ s.1 ∧ ∀ p : Int, 0 ≤ p → p < s.1 → 0 ≤ s.2 p ∧ s.2 p < k
theorem rlI_rg {e S : Nat → Int} {k : Nat} (hS : ∀ i : Nat, i < k → 0 ≤ S i ∧ S i < k) {T : Int} {s : Int × (Int → Int)} (h : RgP k s) : ∀ i : Nat, i ≤ k → RgP k (rlI e S T i s)
  | 0, _ => h
  | i + 1, hi => by
    have ih := rlI_rg (e := e) hS (T := T) h i (by omega)
    show RgP k (rl1 e S T i (rlI e S T i s))
    generalize rlI e S T i s = z at ih ⊢
    obtain ⟨h1, h2⟩ := ih
    unfold rl1
    by_cases q : e i = T
    · rw [if_pos q]
      refine ⟨by show 0 ≤ z.1 + 1; omega, fun p p0 p1 => ?_⟩
      have p1' : p < z.1 + 1 := p1
      show 0 ≤ rset z.2 z.1 (S i) p ∧ rset z.2 z.1 (S i) p < k
      by_cases w : p = z.1
      · rw [rset_eq w]; exact hS i (by omega)
      · rw [rset_ne w]; exact h2 p p0 (by omega)
    · rw [if_neg q]; exact ⟨h1, h2⟩
theorem rlT_rg {e S : Nat → Int} {k : Nat} (hS : ∀ i : Nat, i < k → 0 ≤ S i ∧ S i < k) {s : Int × (Int → Int)} (h : RgP k s) : ∀ T : Nat, RgP k (rlT e S k T s)
  | 0 => h
  | T + 1 => rlI_rg hS (rlT_rg hS h T) k (Nat.le_refl _)
/-- the row behind one step -/
def roll1 (e S : Nat → Int) (k t : Nat) : Nat → Int := fun i => (rlT e S k t (0, fun _ => 0)).2 i
theorem roll1_r {e S : Nat → Int} {k t : Nat} (he : ∀ x : Nat, x < k → 0 ≤ e x ∧ e x < t) (hS : ∀ i : Nat, i < k → 0 ≤ S i ∧ S i < k) (i : Nat) (hi : i < k) : 0 ≤ roll1 e S k t i ∧ roll1 e S k t i < k := by
  have h := rlT_rg (e := e) hS (s := (0, fun _ => 0)) ⟨Int.le_refl _, fun p p0 p1 => by have : p < 0 := p1; omega⟩ t
  have c := rlT_c (S := S) (fun x hx => (he x hx).1) (R := fun _ => 0) t
  rw [cT_e (fun x hx => (he x hx).2)] at c
  exact h.2 i (by omega) (by omega)
theorem roll1_e {e S : Nat → Int} {k t : Nat} (he : ∀ x : Nat, x < k → 0 ≤ e x ∧ e x < t) (R : Int → Int) (i : Nat) (hi : i < k) : (rlT e S k t (0, R)).2 i = roll1 e S k t i := by
  have h := rlT_ag (e := e) (S := S) (k := k) (s := (0, R)) (s' := (0, fun _ => 0)) ⟨rfl, Int.le_refl _, fun p p0 p1 => by have : p < 0 := p1; omega⟩ t
  have c := rlT_c (S := S) (fun x hx => (he x hx).1) (R := R) t
  rw [cT_e (fun x hx => (he x hx).2)] at c
  exact h.2.2 i (by omega) (by omega)
theorem dg_r {a u t : Int} (ha : 0 ≤ a) (hu : 1 ≤ u) (ht : 2 ≤ t) (ha2 : a ≤ 15) : Int.tmod (w32 (Int.tdiv a u)) t = a / u % t ∧ 0 ≤ a / u % t ∧ a / u % t < t := by
  have h1 : 0 ≤ a / u := Int.ediv_nonneg ha (by omega)
  have h2 : a / u ≤ a := Int.ediv_le_self u ha
  rw [Int.tdiv_eq_ediv_of_nonneg ha, w32_i (by omega), Int.tmod_eq_emod_of_nonneg h1]
  exact ⟨rfl, Int.emod_nonneg _ (by omega), Int.emod_lt_of_pos _ (by omega)⟩
theorem sp_rollC {k t : Nat} {u : Int} (hk : k ≤ 16) (ht : 2 ≤ t ∧ t ≤ 8) (hu : 1 ≤ u) {m : Mem} {A : Int → Int} {S : Nat → Int} {post : Mem → Prop} (h0 : m 37 0 = k) (hS : ∀ i : Nat, i < k → m 39 i = S i ∧ 0 ≤ S i ∧ S i < k) (hA : ∀ x : Int, 0 ≤ x → x < k → m 38 x = A x ∧ 0 ≤ A x ∧ A x ≤ 15) (H : ∀ m' : Mem, (∀ c i : Int, ¬ (c = 39 ∨ c = 42) → m' c i = m c i) → (∀ i : Nat, i < k → m' 39 i = roll1 (fun x => A (S x) / u % t) S k t i) → post m') : wp_X7_rollOnce t u m post := by
  have hd : ∀ i : Nat, i < k → Int.tmod (w32 (Int.tdiv (m 38 (S i)) u)) t = A (S i) / u % t ∧ 0 ≤ A (S i) / u % t ∧ A (S i) / u % t < t := fun i hi => by
    have h1 := hS i hi
    have h2 := hA (S i) h1.2.1 h1.2.2
    rw [h2.1]
    exact dg_r h2.2.1 hu (by omega) h2.2.2
  have he : ∀ x : Nat, x < k → 0 ≤ (fun x : Nat => A (S x) / u % t) x ∧ (fun x : Nat => A (S x) / u % t) x < t := fun x hx => (hd x hx).2
  have hd' : ∀ i : Nat, i < k → Int.tmod (w32 (Int.tdiv (m 38 (S i)) u)) t = (fun x : Nat => A (S x) / u % t) i := fun i hi => (hd i hi).1
  generalize (fun x : Nat => A (S x) / u % t) = e at H he hd'
  have inner : ∀ (K : Int → Int → Int → Int → Mem → Prop) (T : Nat) (s : Int × (Int → Int)), T < t → s.1 = cT e k T 0 → K t u (rlI e S T k s).1 ((T + 1 : Nat) : Int) (mrow m 42 (rlI e S T k s).2) → ∀ r i : Nat, i + r = k → wp_X7_rollOnce_25 K post (r + 1) t u (rlI e S T i s).1 T i (mrow m 42 (rlI e S T i s).2) := by
    intro K T s hT hs hK r
    induction r with
    | zero =>
      intro i hi
      unfold wp_X7_rollOnce_25
      rw [mrow_ne (by decide), h0, i1 T (by omega)]
      refine bt (by omega) ?_
      rw [show i = k by omega]
      exact hK
    | succ r ih =>
      intro i hi
      have hc := rlI_c (S := S) hs i (by omega)
      have hSi := hS i (by omega)
      have nx := ih (i + 1) (by omega)
      have ex : rlI e S T (i + 1) s = rl1 e S T i (rlI e S T i s) := rfl
      rw [ex] at nx
      generalize rlI e S T i s = z at hc nx ⊢
      unfold rl1 at nx
      unfold wp_X7_rollOnce_25
      rw [mrow_ne (by decide), h0, mrow_ne (by decide), mrow_ne (by decide), hSi.1, hd' i (by omega), i1 i (by omega)]
      refine bf (by omega) ⟨by omega, by omega, by omega, by omega, fun q => ?_, fun q => ?_⟩
      · rw [if_neg q] at nx; exact nx
      · rw [if_pos q] at nx
        have g := cT_s (k := k) (show i < k by omega) q
        have g2 := cB_le (fun x => decide (e x < T ∨ (e x = T ∧ x < i + 1))) k
        unfold cT at g hc
        refine ⟨by omega, by omega, eqm ?_⟩
        rw [mrow_set, show w32 (z.1 + 1) = z.1 + 1 from w32_i (by omega)]
        exact nx
  have outer : ∀ (R : Int → Int) (r T : Nat), T + r = t → wp_X7_rollOnce_16 (fun v3_3 m_3 => ((0 : Int) ≤ 0 ∧ (0 : Int) ≤ 0 ∧ (0 : Int) ≤ v3_3 ∧ (0 : Int) + v3_3 ≤ 16 ∧ (0 : Int) + v3_3 ≤ 16) ∧ (∀ m94 : Mem, m94 = mcpy m_3 42 0 39 0 v3_3 → (post m94))) post (r + 1) t u (rlT e S k T (0, R)).1 T (mrow m 42 (rlT e S k T (0, R)).2) := by
    intro R r
    induction r with
    | zero =>
      intro T hT
      have c := rlT_c (S := S) (fun x hx => (he x hx).1) (R := R) T
      rw [show T = t by omega] at c ⊢
      rw [cT_e (fun x hx => (he x hx).2)] at c
      unfold wp_X7_rollOnce_16
      refine bt (by omega) ⟨by omega, eqm (H _ (fun c i hc => ?_) (fun i hi => ?_))⟩
      · unfold mcpy
        rw [if_neg (by omega), mrow_ne (by omega)]
      · unfold mcpy
        rw [if_pos (by omega), mrow_s, show (0 : Int) + ((i : Int) - 0) = i by omega]
        exact roll1_e he R i hi
    | succ r ih =>
      intro T hT
      unfold wp_X7_rollOnce_16
      refine bf (by omega) ⟨k + 1, ?_⟩
      exact inner _ T _ (by omega) (rlT_c (S := S) (fun x hx => (he x hx).1) T) (ih (T + 1) (by omega)) k 0 (by omega)
  unfold wp_X7_rollOnce
  refine bf (by omega) (bt (by omega) ⟨t + 1, ?_⟩)
  have := outer (m 42) t 0 (by omega)
  have e0 : rlT e S k 0 (0, m 42) = (0, m 42) := rfl
  rw [e0] at this
  have e1 : mrow m 42 ((0 : Int), m 42).2 = m := mrow_self m 42
  rw [e1] at this
  exact this
