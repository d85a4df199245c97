/-! least: the reference's labels -/
def opR (ov : Nat → Int) (i j : Nat) : Prop := 0 < ov i ∧ ov j < 0 ∧ i % 3 ≤ j % 3
def fR (m : Mem) (i j : Nat) : Int := m 98 (24 * (i : Int) + j)
def sR (ov : Nat → Int) (i : Nat) : Int := if 0 < ov i then ov i else 0
def dR (ov : Nat → Int) (j : Nat) : Int := if ov j < 0 then -ov j else 0
def aR (ov : Nat → Int) (m : Mem) (i : Nat) : Int := if 0 < ov i then m 99 i else 0
def wR (ov : Nat → Int) (m : Mem) (j : Nat) : Int := if ov j < 0 then m 99 j else 0
def ArR (N : Nat) (ov : Nat → Int) (c : Nat → Nat → Int) (m : Mem) (u v : Nat) (k : Int) : Prop := u < N ∧ v < N ∧ ((opR ov u v ∧ k = c u v) ∨ (opR ov v u ∧ 0 < fR m v u ∧ k = -c v u))
def rtR (N : Nat) (ov : Nat → Int) (m : Mem) (x : Nat) : Prop := x < N ∧ 0 < ov x ∧ 0 < m 99 x
def FrP (m0 m : Mem) : Prop := ∀ x i : Int, ¬ (x = 100 ∨ x = 101) → m x i = m0 x i
/-- the reference's numbers for least -/
def RfD (m : Mem) (n : Nat) (ov : Nat → Int) (nr : Int → Int) (st : Int) : Prop := n ≤ 8 ∧ m 67 0 = n ∧ m 67 25 = st ∧ (0 ≤ st ∧ st ≤ 99) ∧ (∀ i : Nat, i < 3 * n → m 83 i = ov i ∧ -50 ≤ ov i ∧ ov i ≤ 50) ∧ ∀ a b : Int, 0 ≤ a → a < n → 0 ≤ b → b < n → m 86 (8 * a + b) = nr (8 * a + b) ∧ 0 ≤ nr (8 * a + b) ∧ nr (8 * a + b) ≤ 99
theorem rfd_fr {m0 m : Mem} {n : Nat} {ov : Nat → Int} {nr : Int → Int} {st : Int} (h : ∀ x i : Int, ¬ (98 ≤ x ∧ x ≤ 101) → m x i = m0 x i) (hD : RfD m0 n ov nr st) : RfD m n ov nr st := by
  have e83 : m 83 = m0 83 := funext fun i => h 83 i (by omega)
  have e86 : m 86 = m0 86 := funext fun i => h 86 i (by omega)
  unfold RfD at hD ⊢
  rw [h 67 0 (by omega), h 67 25 (by omega), e83, e86]
  exact hD
theorem ix24' {g t : Int} (hg : 0 ≤ g ∧ g < 24) (ht : 0 ≤ t ∧ t < 24) : w32 (w32 (24 * g) + t) = 24 * g + t ∧ (0 ≤ 24 * g + t ∧ 24 * g + t < 576) := by
  refine ⟨?_, by omega⟩
  rw [w32_i (x := 24 * g) (by omega), w32_i (by omega)]
theorem sp_priceOf {m : Mem} {n : Nat} {ov : Nat → Int} {nr : Int → Int} {st : Int} (hD : RfD m n ov nr st) {i j : Nat} (hi : i < 3 * n) (hj : j < 3 * n) {post : Int → Mem → Prop} (H1 : i % 3 ≤ j % 3 → post (ctp nr st i j) m) (H0 : ¬ i % 3 ≤ j % 3 → post 100000000 m) : wp_X11_priceOf i j m post := by
  obtain ⟨h1, h2, h3, h4, h5, h6⟩ := hD
  have i24 : i < 24 := by omega
  have j24 : j < 24 := by omega
  have ex : w32 (w32 (8 * w32 (Int.tdiv (i : Int) 3)) + w32 (Int.tdiv (j : Int) 3)) = 8 * ((i / 3 : Nat) : Int) + ((j / 3 : Nat) : Int) := by
    rw [td3 (by omega), td3 (by omega), ix8' (by omega) (by omega) (by omega) (by omega)]
  have x2 := (sf_x i24 j24).2.1
  unfold wp_X11_priceOf
  rw [(sf_x i24 j24).2.2, ex, h3]
  clear ex
  refine eqm ⟨fun q => ⟨x2, ?_⟩, fun q => H0 (by omega)⟩
  have hq : i % 3 ≤ j % 3 := by omega
  have hn := h6 ((i / 3 : Nat) : Int) ((j / 3 : Nat) : Int) (by omega) (by omega) (by omega) (by omega)
  have hb := (ctp_b h4 (fun a b a0 a1 b0 b1 => (h6 a b a0 a1 b0 b1).2) hi hj hq).2
  rw [hn.1, sf_w hb hn.2]
  exact H1 hq
theorem sp_relax {m : Mem} {u v : Nat} {k : Int} (hu : u < 24) (hv : v < 24) (hd : 0 ≤ m 100 u ∧ m 100 u ≤ 100000000) (hk : -100000000 ≤ k ∧ k ≤ 100000000) {post : Int → Mem → Prop} (H1 : m 100 u < 100000000 → k < 100000000 → m 100 u + k < m 100 v → post 1 (mset (mset m 100 v (m 100 u + k)) 101 v u)) (H0 : (m 100 u < 100000000 → k < 100000000 → ¬ m 100 u + k < m 100 v) → post 0 m) : wp_X11_relax u v k m post := by
  have cu : 0 ≤ (u : Int) ∧ (u : Int) < 24 := by omega
  have cv : 0 ≤ (v : Int) ∧ (v : Int) < 24 := by omega
  unfold wp_X11_relax
  rw [w32_i (x := m 100 u + k) (by omega)]
  exact ⟨cu, fun q => H0 (fun z => by omega), fun q => ⟨fun q2 => H0 (fun _ z => by omega), fun q2 => ⟨cu, cv, fun q3 => ⟨cu, cv, eqm ⟨cv, eqm (H1 (by omega) (by omega) q3)⟩⟩, fun q3 => H0 (fun _ _ => q3)⟩⟩⟩
/-- the labels stand -/
def RIl (m0 : Mem) (N : Nat) (ov : Nat → Int) (c : Nat → Nat → Int) (p : Nat → Int) (m : Mem) : Prop := FrP m0 m ∧ ∃ rk : Nat → Nat, LV N (ArR N ov c m0) (rtR N ov m0) p 100000000 (fun x => m 100 x) (fun x => m 101 x) rk
theorem ri_r {m0 : Mem} {N : Nat} {ov : Nat → Int} {c : Nat → Nat → Int} {p : Nat → Int} (hc : ∀ i j : Nat, i < N → j < N → opR ov i j → 0 ≤ c i j ∧ c i j ≤ 1000) (hp : ∀ x : Nat, x < N → 0 < ov x → 0 ≤ p x) {m : Mem} (h : RIl m0 N ov c p m) {x : Nat} (hx : x < N) : 0 ≤ m 100 x ∧ m 100 x ≤ 100000000 := by
  obtain ⟨hf, rk, hL⟩ := h
  have h1 : m 100 x ≤ 100000000 ∧ (m 100 x < 100000000 → p x ≤ m 100 x ∧ _) := hL.1 x hx
  refine ⟨?_, h1.1⟩
  by_cases q : m 100 x < 100000000
  · rcases hL.2.1 x hx q with ⟨-, -, w⟩ | ⟨u, hu, -, k, w2, w3, w4, -⟩
    · have : m 100 x = 0 := w
      omega
    · obtain ⟨-, -, ⟨v1, v2⟩ | ⟨v1, v2, v3⟩⟩ := w2
      · have h2 := hc u x hu hx v1
        have h3 := hp u hu v1.1
        have h4 := ((hL.1 u hu).2 w3).1
        have h5 : p u ≤ m 100 u := h4
        have h6 : m 100 u + k ≤ m 100 x := w4
        omega
      · have h3 := hp x hx v1.1
        have := (h1.2 q).1
        omega
  · omega
theorem ri_rel {m0 : Mem} {N : Nat} (hN : N ≤ 24) {ov : Nat → Int} {c : Nat → Nat → Int} {p : Nat → Int} (hG : LG N (ArR N ov c m0) (rtR N ov m0) p) {m : Mem} (h : RIl m0 N ov c p m) {u v : Nat} {k : Int} (hA : ArR N ov c m0 u v k) (hd : m 100 u < 100000000) (hlt : m 100 u + k < m 100 v) : RIl m0 N ov c p (mset (mset m 100 v (m 100 u + k)) 101 v u) ∧ (∀ x : Nat, mset (mset m 100 v (m 100 u + k)) 101 v u 100 x ≤ m 100 x) ∧ mset (mset m 100 v (m 100 u + k)) 101 v u 100 v = m 100 u + k := by
  obtain ⟨hf, rk, hL⟩ := h
  have eV : mset (mset m 100 v (m 100 u + k)) 101 v u 100 v = m 100 u + k := by rw [mset_r (by decide), mset_same]
  have eN : ∀ x : Nat, x ≠ v → mset (mset m 100 v (m 100 u + k)) 101 v u 100 x = m 100 x := fun x hx => by rw [mset_r (by decide), mset_ne (by omega)]
  obtain ⟨rk', hL'⟩ := lv_relax (by omega) (by decide) hG hL hA hd hlt (d' := fun x => mset (mset m 100 v (m 100 u + k)) 101 v u 100 x) (par' := fun x => mset (mset m 100 v (m 100 u + k)) 101 v u 101 x) eV (mset_same _ _ _ _) eN (fun x hx => by
    show mset (mset m 100 v (m 100 u + k)) 101 v u 101 x = m 101 x
    rw [mset_ne (by omega), mset_r (by decide)])
  refine ⟨⟨fun x i hx => ?_, rk', hL'⟩, fun x => ?_, eV⟩
  · rw [mset_ne (fun z => hx (by omega)), mset_ne (fun z => hx (by omega))]; exact hf x i hx
  · by_cases e : x = v
    · rw [e, eV]; omega
    · rw [eN x e]; exact Int.le_refl _
/-- within a round that began at ms -/
def RCl (m0 : Mem) (N : Nat) (ov : Nat → Int) (c : Nat → Nat → Int) (p : Nat → Int) (ms : Mem) (v : Int) (m : Mem) : Prop := RIl m0 N ov c p m ∧ (∀ x : Nat, x < N → m 100 x ≤ ms 100 x) ∧ (v = 0 ∨ v = 1) ∧ (v = 0 → ∀ x : Nat, x < N → m 100 x = ms 100 x) ∧ (v = 1 → sumg (fun x => m 100 x) N < sumg (fun x => ms 100 x) N)
theorem rc_rel {m0 : Mem} {N : Nat} (hN : N ≤ 24) {ov : Nat → Int} {c : Nat → Nat → Int} {p : Nat → Int} (hG : LG N (ArR N ov c m0) (rtR N ov m0) p) {ms : Mem} {w : Int} {m : Mem} (h : RCl m0 N ov c p ms w m) {u v : Nat} {k : Int} (hA : ArR N ov c m0 u v k) (hd : m 100 u < 100000000) (hlt : m 100 u + k < m 100 v) : RCl m0 N ov c p ms 1 (mset (mset m 100 v (m 100 u + k)) 101 v u) := by
  obtain ⟨h1, h2, h3, h4, h5⟩ := h
  obtain ⟨r1, r2, r3⟩ := ri_rel hN hG h1 hA hd hlt
  refine ⟨r1, fun x hx => Int.le_trans (r2 x) (h2 x hx), Or.inr rfl, fun z => absurd z (by decide), fun _ => ?_⟩
  have a := sumg_lt (g := fun x => m 100 x) (g' := fun x => mset (mset m 100 v (m 100 u + k)) 101 v u 100 x) (i := v) N hA.2.1 (by show mset (mset m 100 v (m 100 u + k)) 101 v u 100 v < m 100 v; rw [r3]; exact hlt) (fun x _ => r2 x)
  have b := sumg_le (g := fun x => m 100 x) (g' := fun x => ms 100 x) N (fun x hx => h2 x hx)
  omega
/-- pairs that were looked at -/
def RPl (m0 : Mem) (N : Nat) (ov : Nat → Int) (c : Nat → Nat → Int) (ms : Mem) (i j : Nat) (m : Mem) : Prop := ∀ x y : Nat, x < N → y < N → (x < i ∨ (x = i ∧ y < j)) → opR ov x y → (ms 100 x < 100000000 → m 100 y ≤ ms 100 x + c x y) ∧ (0 < fR m0 x y → ms 100 y < 100000000 → m 100 x ≤ ms 100 y - c x y)
theorem rpr_m {m0 : Mem} {N : Nat} {ov : Nat → Int} {c : Nat → Nat → Int} {ms : Mem} {i j : Nat} {m m' : Mem} (h : RPl m0 N ov c ms i j m) (hle : ∀ x : Nat, x < N → m' 100 x ≤ m 100 x) (hp : opR ov i j → j < N → i < N → (ms 100 i < 100000000 → m' 100 j ≤ ms 100 i + c i j) ∧ (0 < fR m0 i j → ms 100 j < 100000000 → m' 100 i ≤ ms 100 j - c i j)) : RPl m0 N ov c ms i (j + 1) m' := fun x y hx hy hor ho => by
  by_cases e : x = i ∧ y = j
  · rw [e.1, e.2]; rw [e.1, e.2] at ho; exact hp ho (by omega) (by omega)
  · have h1 := h x y hx hy (by omega) ho
    have h2 := hle x hx
    have h3 := hle y hy
    exact ⟨fun z => by have := h1.1 z; omega, fun z1 z2 => by have := h1.2 z1 z2; omega⟩
theorem sp_pair {m0 : Mem} {n : Nat} {ov : Nat → Int} {nr : Int → Int} {st : Int} (hD : RfD m0 n ov nr st) {p : Nat → Int} (hc : ∀ i j : Nat, i < 3 * n → j < 3 * n → opR ov i j → 0 ≤ ctp nr st i j ∧ ctp nr st i j ≤ 1000) (hp : ∀ x : Nat, x < 3 * n → 0 < ov x → 0 ≤ p x) (hG : LG (3 * n) (ArR (3 * n) ov (ctp nr st) m0) (rtR (3 * n) ov m0) p) (hfo : ∀ i j : Nat, i < 3 * n → j < 3 * n → 0 < fR m0 i j → opR ov i j) {ms : Mem} {v : Int} {m : Mem} {i j : Nat} (hi : i < 3 * n) (hj : j < 3 * n) (hov : 0 < ov i ∧ ov j < 0) (h : RCl m0 (3 * n) ov (ctp nr st) p ms v m) (hP : RPl m0 (3 * n) ov (ctp nr st) ms i j m) {K77 : Int → Int → Int → Mem → Prop} {post : Mem → Prop} (H : ∀ (v' : Int) (m' : Mem), RCl m0 (3 * n) ov (ctp nr st) p ms v' m' → RPl m0 (3 * n) ov (ctp nr st) ms i (j + 1) m' → K77 v' i ((j + 1 : Nat) : Int) m') : wp_X11_priceOf i j m (fun r111 m111 => wp_X11_relax i j r111 m111 (fun r114 m114 => ((¬ r114 = 0 → (wp_X11_label_124 i j m114 (fun v1_9 v2_9 v3_9 m_9 => K77 v1_9 v2_9 v3_9 m_9) post)) ∧
  (r114 = 0 → (((v = 0 → (wp_X11_label_129 i j 0 m114 (fun v1_10 v2_10 v3_10 m_10 => K77 v1_10 v2_10 v3_10 m_10) post)) ∧
  (¬ v = 0 → (wp_X11_label_124 i j m114 (fun v1_11 v2_11 v3_11 m_11 => K77 v1_11 v2_11 v3_11 m_11) post)))))))) := by
  have h8 := hD.1
  have hi24 : i < 24 := by omega
  have hj24 : j < 24 := by omega
  have ci : 0 ≤ (i : Int) ∧ (i : Int) < 24 := by omega
  have cj : 0 ≤ (j : Int) ∧ (j : Int) < 24 := by omega
  have hN24 : 3 * n ≤ 24 := by omega
  have ix := ix24' ci cj
  have x2 := ix.2
  have ix1 := ix.1
  clear ix
  -- the second half
  have half : ∀ (v' : Int) (m1 : Mem), RCl m0 (3 * n) ov (ctp nr st) p ms v' m1 → (∀ x : Nat, x < 3 * n → m1 100 x ≤ m 100 x) → (opR ov i j → ms 100 i < 100000000 → m1 100 j ≤ ms 100 i + ctp nr st i j) → wp_X11_label_129 i j v' m1 (fun v1_10 v2_10 v3_10 m_10 => K77 v1_10 v2_10 v3_10 m_10) post := fun v' m1 hC1 hle hrel => by
    have hD1 := rfd_fr (m := m1) (fun x k hx => hC1.1.1 x k (by omega)) hD
    have ef : m1 98 (24 * (i : Int) + j) = fR m0 i j := hC1.1.1 98 _ (by omega)
    have e160 : ∀ (v2 : Int) (m2 : Mem), RCl m0 (3 * n) ov (ctp nr st) p ms v2 m2 → RPl m0 (3 * n) ov (ctp nr st) ms i (j + 1) m2 → wp_X11_label_160 v2 i j m2 (fun v1_6 v2_6 v3_6 m_6 => K77 v1_6 v2_6 v3_6 m_6) post := fun v2 m2 a b => by
      unfold wp_X11_label_160
      rw [i1 j (by omega)]
      refine ⟨fun z => ?_, fun z => ?_⟩
      · rw [z] at a; exact H 0 m2 a b
      · have : v2 = 1 := a.2.2.1.resolve_left z
        rw [this] at a; exact H 1 m2 a b
    unfold wp_X11_label_129
    rw [ix1, ef]
    refine ⟨x2, fun q => e160 v' m1 hC1 (rpr_m hP hle (fun ho _ _ => ⟨hrel ho, fun z => by omega⟩)), fun q => ?_⟩
    have ho := hfo i j hi hj (by omega)
    have hcb := hc i j hi hj ho
    refine sp_priceOf hD1 hi hj (fun _ => ?_) (fun z => absurd ho.2.2 z)
    rw [w32_i (x := -ctp nr st i j) (by omega)]
    refine sp_relax hj24 hi24 (ri_r hc hp hC1.1 hj) (by omega) (fun y1 y2 y3 => n1 ?_) (fun y => n0 (e160 v' m1 hC1 (rpr_m hP hle (fun ho _ _ => ⟨hrel ho, fun _ z => ?_⟩))))
    · have hA : ArR (3 * n) ov (ctp nr st) m0 j i (-ctp nr st i j) := ⟨hj, hi, Or.inr ⟨ho, by omega, rfl⟩⟩
      have nw := rc_rel hN24 hG hC1 hA y1 y3
      obtain ⟨r1, r2, r3⟩ := ri_rel hN24 hG hC1.1 hA y1 y3
      rw [i1 j (by omega)]
      refine H 1 _ nw (rpr_m hP (fun x hx => Int.le_trans (r2 x) (hle x hx)) (fun ho _ _ => ⟨fun z => Int.le_trans (r2 j) (hrel ho z), fun _ z => ?_⟩))
      rw [r3]
      have := hC1.2.1 j hj
      omega
    · have h1 := hC1.2.1 j hj
      have h2 := y (by omega) (by omega)
      omega
  have hDm := rfd_fr (m := m) (fun x k hx => h.1.1 x k (by omega)) hD
  refine sp_priceOf hDm hi hj (fun hw => ?_) (fun hw => ?_)
  · have ho : opR ov i j := ⟨hov.1, hov.2, hw⟩
    have hcb := hc i j hi hj ho
    refine sp_relax hi24 hj24 (ri_r hc hp h.1 hi) (by omega) (fun y1 y2 y3 => n1 ?_) (fun y => n0 ?_)
    · have hA : ArR (3 * n) ov (ctp nr st) m0 i j (ctp nr st i j) := ⟨hi, hj, Or.inl ⟨ho, rfl⟩⟩
      have nw := rc_rel hN24 hG h hA y1 y3
      obtain ⟨r1, r2, r3⟩ := ri_rel hN24 hG h.1 hA y1 y3
      unfold wp_X11_label_124
      refine half 1 _ nw (fun x _ => r2 x) (fun _ _ => ?_)
      rw [r3]
      have := h.2.1 i hi
      omega
    · have rel : opR ov i j → ms 100 i < 100000000 → m 100 j ≤ ms 100 i + ctp nr st i j := fun _ z => by
        have h1 := h.2.1 i hi
        have h2 := y (by omega) (by omega)
        omega
      refine ⟨fun z => ?_, fun z => ?_⟩
      · rw [z] at h; exact half 0 m h (fun x _ => Int.le_refl _) rel
      · have e1 : v = 1 := h.2.2.1.resolve_left z
        rw [e1] at h
        unfold wp_X11_label_124
        exact half 1 m h (fun x _ => Int.le_refl _) rel
  · refine sp_relax hi24 hj24 (ri_r hc hp h.1 hi) (by omega) (fun y1 y2 y3 => absurd y2 (by decide)) (fun y => n0 ?_)
    have rel : opR ov i j → ms 100 i < 100000000 → m 100 j ≤ ms 100 i + ctp nr st i j := fun z => absurd z.2.2 hw
    refine ⟨fun z => ?_, fun z => ?_⟩
    · rw [z] at h; exact half 0 m h (fun x _ => Int.le_refl _) rel
    · have e1 : v = 1 := h.2.2.1.resolve_left z
      rw [e1] at h
      unfold wp_X11_label_124
      exact half 1 m h (fun x _ => Int.le_refl _) rel
/-- what the reference's labels are at their end -/
def REl (m0 : Mem) (N : Nat) (ov : Nat → Int) (c : Nat → Nat → Int) (p : Nat → Int) (m : Mem) : Prop := RIl m0 N ov c p m ∧ LF (ArR N ov c m0) 100000000 (fun x => m 100 x)
theorem sp_labelR {m0 : Mem} {n : Nat} {ov : Nat → Int} {nr : Int → Int} {st : Int} (hD : RfD m0 n ov nr st) {p : Nat → Int} (hc : ∀ i j : Nat, i < 3 * n → j < 3 * n → opR ov i j → 0 ≤ ctp nr st i j ∧ ctp nr st i j ≤ 1000) (hp : ∀ x : Nat, x < 3 * n → 0 < ov x → 0 ≤ p x) (hG : LG (3 * n) (ArR (3 * n) ov (ctp nr st) m0) (rtR (3 * n) ov m0) p) (hfo : ∀ i j : Nat, i < 3 * n → j < 3 * n → 0 < fR m0 i j → opR ov i j) {post : Mem → Prop} (H : ∀ m : Mem, REl m0 (3 * n) ov (ctp nr st) p m → post m) : wp_X11_label m0 post := by
  have h8 := hD.1
  have eN : ∀ m : Mem, FrP m0 m → w32 (3 * m 67 0) = ((3 * n : Nat) : Int) := fun m hf => by
    rw [hf 67 0 (by omega), hD.2.1, w32_i (by omega)]
    omega
  have e83 : ∀ (m : Mem) (i : Nat), FrP m0 m → i < 3 * n → m 83 i = ov i := fun m i hf hi => by rw [hf 83 i (by omega)]; exact (hD.2.2.2.2.1 i hi).1
  -- a round
  have inner : ∀ (ms : Mem) (K65 : Int → Int → Mem → Prop) (i : Nat), i < 3 * n → (∀ (v : Int) (m : Mem), RCl m0 (3 * n) ov (ctp nr st) p ms v m → RPl m0 (3 * n) ov (ctp nr st) ms (i + 1) 0 m → K65 v ((i + 1 : Nat) : Int) m) → ∀ (rem j : Nat) (v : Int) (m : Mem), j + rem = 3 * n → RCl m0 (3 * n) ov (ctp nr st) p ms v m → RPl m0 (3 * n) ov (ctp nr st) ms i j m → wp_X11_label_77 K65 post (rem + 1) v i j m := by
    intro ms K65 i hi hK rem
    induction rem with
    | zero =>
      intro j v m hj hC hPr
      have : j = 3 * n := by omega
      subst this
      unfold wp_X11_label_77
      rw [eN m hC.1.1, i1 i (by omega)]
      exact bt (Int.le_refl _) (hK v m hC (fun x y hx hy hor => hPr x y hx hy (by omega)))
    | succ rem ih =>
      intro j v m hj hC hPr
      have hjN : j < 3 * n := by omega
      have ci : 0 ≤ (i : Int) ∧ (i : Int) < 24 := by omega
      have cj : 0 ≤ (j : Int) ∧ (j : Int) < 24 := by omega
      have skip : ¬ (0 < ov i ∧ ov j < 0) → wp_X11_label_77 K65 post (rem + 1) v i ((j + 1 : Nat) : Int) m := fun q => ih (j + 1) v m (by omega) hC (rpr_m hPr (fun x _ => Int.le_refl _) (fun ho _ _ => absurd ⟨ho.1, ho.2.1⟩ q))
      unfold wp_X11_label_77
      rw [eN m hC.1.1, i1 j (by omega), e83 m i hC.1.1 hi, e83 m j hC.1.1 hjN]
      refine bf (by omega) ⟨ci, fun q => skip (by omega), fun q => ⟨cj, fun q2 => skip (by omega), fun q2 => ?_⟩⟩
      exact sp_pair hD hc hp hG hfo hi hjN (by omega) hC hPr (fun v' m' a b => ih (j + 1) v' m' (by omega) a b)
  have outer : ∀ (ms : Mem) (K57 : Int → Mem → Prop), (∀ (v : Int) (m : Mem), RCl m0 (3 * n) ov (ctp nr st) p ms v m → RPl m0 (3 * n) ov (ctp nr st) ms (3 * n) 0 m → K57 v m) → ∀ (rem i : Nat) (v : Int) (m : Mem), i + rem = 3 * n → RCl m0 (3 * n) ov (ctp nr st) p ms v m → RPl m0 (3 * n) ov (ctp nr st) ms i 0 m → wp_X11_label_65 K57 post (rem + 1) v i m := by
    intro ms K57 hK rem
    induction rem with
    | zero =>
      intro i v m hi hC hPr
      have : i = 3 * n := by omega
      subst this
      unfold wp_X11_label_65
      rw [eN m hC.1.1]
      exact bt (Int.le_refl _) (hK v m hC hPr)
    | succ rem ih =>
      intro i v m hi hC hPr
      unfold wp_X11_label_65
      rw [eN m hC.1.1]
      exact bf (by omega) ⟨3 * n + 1, inner ms _ i (by omega) (fun v' m' a b => ih (i + 1) v' m' (by omega) a b) (3 * n) 0 v m (by omega) hC hPr⟩
  have rounds : ∀ (s : Nat) (m : Mem), RIl m0 (3 * n) ov (ctp nr st) p m → sumg (fun x => m 100 x) (3 * n) ≤ (s : Int) → wp_X11_label_57 post (s + 2) 1 m := by
    intro s
    induction s with
    | zero =>
      intro m hI hs
      unfold wp_X11_label_57
      refine bf (by decide) ⟨3 * n + 1, outer m _ (fun v m' hC hPr => ?_) (3 * n) 0 0 m (by omega) ⟨hI, fun x _ => Int.le_refl _, Or.inl rfl, fun _ _ _ => rfl, fun z => absurd z (by decide)⟩ (fun x y _ _ hor => by omega)⟩
      rcases hC.2.2.1 with e | e
      · have eq := hC.2.2.2.1 e
        rw [e]
        unfold wp_X11_label_57
        refine bt rfl (H m' ⟨hC.1, fun u w k hA hu => ?_⟩)
        obtain ⟨a1, a2, ⟨b1, b2⟩ | ⟨b1, b2, b3⟩⟩ := hA
        · have h1 := (hPr u w a1 a2 (Or.inl a1) b1).1 (by rw [← eq u a1]; exact hu)
          show m' 100 w ≤ m' 100 u + k
          rw [eq u a1, b2]; exact h1
        · have h1 := (hPr w u a2 a1 (Or.inl a2) b1).2 b2 (by rw [← eq u a1]; exact hu)
          show m' 100 w ≤ m' 100 u + k
          rw [eq u a1, b3]; omega
      · have h1 := hC.2.2.2.2 e
        have h2 := sumg_n (g := fun x => m' 100 x) (3 * n) (fun x hx => (ri_r hc hp hC.1 hx).1)
        omega
    | succ s ih =>
      intro m hI hs
      unfold wp_X11_label_57
      refine bf (by decide) ⟨3 * n + 1, outer m _ (fun v m' hC hPr => ?_) (3 * n) 0 0 m (by omega) ⟨hI, fun x _ => Int.le_refl _, Or.inl rfl, fun _ _ _ => rfl, fun z => absurd z (by decide)⟩ (fun x y _ _ hor => by omega)⟩
      rcases hC.2.2.1 with e | e
      · have eq := hC.2.2.2.1 e
        rw [e]
        unfold wp_X11_label_57
        refine bt rfl (H m' ⟨hC.1, fun u w k hA hu => ?_⟩)
        obtain ⟨a1, a2, ⟨b1, b2⟩ | ⟨b1, b2, b3⟩⟩ := hA
        · have h1 := (hPr u w a1 a2 (Or.inl a1) b1).1 (by rw [← eq u a1]; exact hu)
          show m' 100 w ≤ m' 100 u + k
          rw [eq u a1, b2]; exact h1
        · have h1 := (hPr w u a2 a1 (Or.inl a2) b1).2 b2 (by rw [← eq u a1]; exact hu)
          show m' 100 w ≤ m' 100 u + k
          rw [eq u a1, b3]; omega
      · have h1 := hC.2.2.2.2 e
        rw [e]
        exact ih m' hC.1 (by omega)
  have start : ∀ (rem i : Nat) (m : Mem), i + rem = 3 * n → FrP m0 m → (∀ x : Nat, x < i → m 101 x = -1 ∧ ((rtR (3 * n) ov m0 x ∧ m 100 x = 0) ∨ (¬ rtR (3 * n) ov m0 x ∧ m 100 x = 100000000))) → wp_X11_label_2 (fun v1_5 m_5 => ∃ n_16 : Nat, wp_X11_label_57 post n_16 v1_5 m_5) post (rem + 1) i m := by
    intro rem
    induction rem with
    | zero =>
      intro i m hi hf hx
      have : i = 3 * n := by omega
      subst this
      unfold wp_X11_label_2
      rw [eN m hf]
      refine bt (Int.le_refl _) ⟨_, rounds (sumg (fun x => m 100 x) (3 * n)).toNat m ⟨hf, fun _ => 0, fun x hxN => ?_, fun x hxN hdx => ?_, fun x hxN hr => ?_⟩ (by omega)⟩
      · rcases (hx x hxN).2 with ⟨q1, q2⟩ | ⟨q1, q2⟩
        · show m 100 x ≤ 100000000 ∧ (m 100 x < 100000000 → p x ≤ m 100 x ∧ m 100 x ≤ 1000 * fnC 100000000 (fun x => m 100 x) (3 * n))
          rw [q2]
          have := (fnC_r 100000000 (fun x => m 100 x) (3 * n)).1
          exact ⟨by decide, fun _ => ⟨by rw [hG.2 x hxN q1]; exact Int.le_refl _, by omega⟩⟩
        · show m 100 x ≤ 100000000 ∧ (m 100 x < 100000000 → _)
          rw [q2]; exact ⟨Int.le_refl _, fun z => absurd z (by decide)⟩
      · rcases (hx x hxN).2 with ⟨q1, q2⟩ | ⟨q1, q2⟩
        · exact Or.inl ⟨(hx x hxN).1, q1, q2⟩
        · have : m 100 x < 100000000 := hdx
          rw [q2] at this; exact absurd this (by decide)
      · rcases (hx x hxN).2 with ⟨q1, q2⟩ | ⟨q1, q2⟩
        · show m 100 x ≤ 0
          rw [q2]; exact Int.le_refl _
        · exact absurd hr q1
    | succ rem ih =>
      intro i m hi hf hx
      have hiN : i < 3 * n := by omega
      have ci : 0 ≤ (i : Int) ∧ (i : Int) < 24 := by omega
      have nx : ∀ v : Int, ((rtR (3 * n) ov m0 i ∧ v = 0) ∨ (¬ rtR (3 * n) ov m0 i ∧ v = 100000000)) → wp_X11_label_2 (fun v1_5 m_5 => ∃ n_16 : Nat, wp_X11_label_57 post n_16 v1_5 m_5) post (rem + 1) ((i + 1 : Nat) : Int) (mset (mset m 100 i v) 101 i (-1)) := fun v hv => ih (i + 1) _ (by omega) (fun x k hx => by rw [mset_ne (fun z => hx (by omega)), mset_ne (fun z => hx (by omega))]; exact hf x k hx) (fun y hy => by
        rw [mset_r (show ¬ (100 : Int) = 101 by decide)]
        by_cases c : y = i
        · rw [c, mset_same, mset_same]; exact ⟨rfl, hv⟩
        · rw [mset_ne (by omega), mset_r (show ¬ (101 : Int) = 100 by decide), mset_ne (by omega)]; exact hx y (by omega))
      unfold wp_X11_label_2 wp_X11_label_39 wp_X11_label_41
      rw [eN m hf, i1 i (by omega), e83 m i hf hiN, hf 99 i (by omega)]
      exact bf (by omega) ⟨ci, fun q => ⟨ci, eqm ⟨ci, eqm (nx _ (Or.inr ⟨fun z => by have := z.2.1; omega, rfl⟩))⟩⟩, fun q => ⟨ci, fun q2 => ⟨ci, eqm ⟨ci, eqm (nx _ (Or.inr ⟨fun z => by have := z.2.2; omega, rfl⟩))⟩⟩, fun q2 => ⟨ci, eqm ⟨ci, eqm (nx _ (Or.inl ⟨⟨hiN, by omega, by omega⟩, rfl⟩))⟩⟩⟩⟩
  exact ⟨3 * n + 1, start (3 * n) 0 m0 (by omega) (fun _ _ _ => rfl) (fun x hx => by omega)⟩
/-- which taker is sent to -/
theorem sp_pick {m : Mem} {n : Nat} {ov : Nat → Int} {nr : Int → Int} {st : Int} (hD : RfD m n ov nr st) {v1 : Int} {K : Int → Int → Int → Mem → Prop} {post : Int → Mem → Prop} (H1 : ∀ t : Nat, t < 3 * n → ov t < 0 → 0 < m 99 t → m 100 t < 100000000 → K v1 t 1 m) (H0 : (∀ t : Nat, t < 3 * n → ov t < 0 → ¬ 0 < m 99 t) → K v1 (-1) 0 m) (H2 : (∀ t : Nat, t < 3 * n → ov t < 0 → 0 < m 99 t → ¬ m 100 t < 100000000) → (∃ t : Nat, t < 3 * n ∧ ov t < 0 ∧ 0 < m 99 t) → K v1 (-1) 1 m) : ∃ k : Nat, wp_X11_least_93 K post k v1 (-1) 0 0 m := by
  obtain ⟨h8, h67, hst, hst', h83, -⟩ := hD
  have eN : w32 (3 * m 67 0) = ((3 * n : Nat) : Int) := by rw [h67, w32_i (by omega)]; omega
  have key : ∀ (rem t : Nat) (v2 v3 : Int), t + rem = 3 * n → (((v2 = -1 ∧ ∀ y : Nat, y < t → ov y < 0 → 0 < m 99 y → ¬ m 100 y < 100000000) ∧ ((v3 = 0 ∧ ∀ y : Nat, y < t → ov y < 0 → ¬ 0 < m 99 y) ∨ (v3 = 1 ∧ ∃ y : Nat, y < t ∧ ov y < 0 ∧ 0 < m 99 y))) ∨ (v3 = 1 ∧ ∃ y : Nat, y < t ∧ v2 = y ∧ ov y < 0 ∧ 0 < m 99 y ∧ m 100 y < 100000000)) → wp_X11_least_93 K post (rem + 1) v1 v2 v3 t m := by
    intro rem
    induction rem with
    | zero =>
      intro t v2 v3 ht h
      have : t = 3 * n := by omega
      subst this
      unfold wp_X11_least_93
      rw [eN]
      refine bt (Int.le_refl _) ?_
      rcases h with ⟨⟨h1, h2⟩, ⟨h3, h4⟩ | ⟨h3, h4⟩⟩ | ⟨h3, y, h4, h5, h6, h7, h9⟩
      · rw [h1, h3]; exact H0 h4
      · rw [h1, h3]; exact H2 h2 h4
      · rw [h3, h5]; exact H1 y h4 h6 h7 h9
    | succ rem ih =>
      intro t v2 v3 ht h
      have htN : t < 3 * n := by omega
      have ct : 0 ≤ (t : Int) ∧ (t : Int) < 24 := by omega
      unfold wp_X11_least_93
      rw [eN, i1 t (by omega), (h83 t htN).1]
      have same : ¬ (ov t < 0 ∧ 0 < m 99 t) → wp_X11_least_93 K post (rem + 1) v1 v2 v3 ((t + 1 : Nat) : Int) m := fun q => by
        refine ih (t + 1) v2 v3 (by omega) ?_
        rcases h with ⟨⟨h1, h2⟩, h3⟩ | ⟨h3, y, h4, h5⟩
        · refine Or.inl ⟨⟨h1, fun y hy ho hw => ?_⟩, ?_⟩
          · by_cases c : y = t
            · rw [c] at ho hw; exact absurd ⟨ho, hw⟩ q
            · exact h2 y (by omega) ho hw
          · rcases h3 with ⟨h3, h4⟩ | ⟨h3, y, h4, h5⟩
            · refine Or.inl ⟨h3, fun y hy ho hw => ?_⟩
              by_cases c : y = t
              · rw [c] at ho hw; exact q ⟨ho, hw⟩
              · exact h4 y (by omega) ho hw
            · exact Or.inr ⟨h3, y, by omega, h5⟩
        · exact Or.inr ⟨h3, y, by omega, h5⟩
      have take : ov t < 0 → 0 < m 99 t → m 100 t < 100000000 → wp_X11_least_93 K post (rem + 1) v1 t 1 ((t + 1 : Nat) : Int) m := fun q1 q2 q3 => ih (t + 1) t 1 (by omega) (Or.inr ⟨rfl, t, by omega, rfl, q1, q2, q3⟩)
      refine bf (by omega) ⟨ct, fun q => same (by omega), fun q => ⟨ct, fun q2 => same (by omega), fun q2 => ⟨ct, fun q3 => ?_, fun q3 => ⟨fun q4 => take (by omega) (by omega) (by omega), fun q4 => ?_⟩⟩⟩⟩
      · refine ih (t + 1) v2 1 (by omega) ?_
        rcases h with ⟨⟨h1, h2⟩, h3⟩ | ⟨h3, y, h4, h5⟩
        · refine Or.inl ⟨⟨h1, fun y hy ho hw => ?_⟩, Or.inr ⟨rfl, t, by omega, by omega, by omega⟩⟩
          by_cases c : y = t
          · rw [c]; omega
          · exact h2 y (by omega) ho hw
        · exact Or.inr ⟨rfl, y, by omega, h5⟩
      · rcases h with ⟨⟨h1, h2⟩, h3⟩ | ⟨h3, y, h4, h5, h6, h7, h9⟩
        · exact absurd h1 q4
        · exact ⟨ct, by omega, fun _ => ih (t + 1) v2 1 (by omega) (Or.inr ⟨rfl, y, by omega, h5, h6, h7, h9⟩), fun _ => take (by omega) (by omega) (by omega)⟩
  exact ⟨3 * n + 1, key (3 * n) 0 (-1) 0 (by omega) (Or.inl ⟨⟨rfl, fun y hy => by omega⟩, Or.inl ⟨rfl, fun y hy => by omega⟩⟩)⟩
def ChnR (m : Mem) (N : Nat) (ov : Nat → Int) (c : Nat → Nat → Int) (pos : Nat → Nat) : Prop := ∀ t : Nat, t < N → ov t < 0 → m 100 t < 100000000 → ∃ g : Nat, g < N ∧ m 101 t = g ∧ opR ov g t ∧ m 100 g < 100000000 ∧ m 100 t = m 100 g + c g t ∧ pos g < pos t ∧ ((m 101 g = -1 ∧ 0 < m 99 g ∧ m 100 g = 0) ∨ ∃ t2 : Nat, t2 < N ∧ ov t2 < 0 ∧ m 101 g = t2 ∧ 0 < fR m g t2 ∧ m 100 t2 < 100000000 ∧ pos t2 < pos g)
theorem chainR {m0 : Mem} {N : Nat} {ov : Nat → Int} {c : Nat → Nat → Int} {p : Nat → Int} {m : Mem} (h : REl m0 N ov c p m) : ∃ pos : Nat → Nat, ChnR m N ov c pos := by
  obtain ⟨⟨hf, rk, hL⟩, hF⟩ := h
  obtain ⟨pos, h1, h2⟩ := lv_pos hL
  have e99 : ∀ x : Int, m 99 x = m0 99 x := fun x => hf 99 x (by omega)
  have e98 : ∀ g t : Nat, fR m g t = fR m0 g t := fun g t => hf 98 _ (by omega)
  refine ⟨pos, fun t ht hov hd => ?_⟩
  rcases h2 t ht hd with ⟨-, w, -⟩ | ⟨g, hg, w1, w2, k, w3, w4, w5⟩
  · have := w.2.1; omega
  · have hle := hF g t k w3 w4
    have w4' : m 100 g < 100000000 := w4
    have w5' : m 100 g + k ≤ m 100 t := w5
    have hle' : m 100 t ≤ m 100 g + k := hle
    obtain ⟨-, -, ⟨v1, v2⟩ | ⟨v1, v2, v3⟩⟩ := w3
    · refine ⟨g, hg, w1, v1, w4', by omega, w2, ?_⟩
      rcases h2 g hg w4 with ⟨y1, y2, y3⟩ | ⟨t2, ht2, y1, y2, k2, y3, y4, y5⟩
      · exact Or.inl ⟨y1, by rw [e99]; exact y2.2.2, y3⟩
      · obtain ⟨-, -, ⟨z1, z2⟩ | ⟨z1, z2, z3⟩⟩ := y3
        · have := z1.2.1; have := v1.1; omega
        · exact Or.inr ⟨t2, ht2, z1.2.1, y1, by rw [e98]; exact z2, y4, y2⟩
    · have := v1.1; omega
def CapR (N : Nat) (ov : Nat → Int) (m : Mem) (y : Int) (rt : Nat) : Nat → Nat → Prop
  | 0, _ => False
  | k + 1, t => ∃ g : Nat, g < N ∧ m 101 t = g ∧ ((m 101 g = -1 ∧ g = rt) ∨ ∃ t2 : Nat, t2 < N ∧ ov t2 < 0 ∧ m 101 g = t2 ∧ y ≤ fR m g t2 ∧ CapR N ov m y rt k t2)
theorem capR_m {N : Nat} {ov : Nat → Int} {m : Mem} {y y' : Int} {rt : Nat} (h : y' ≤ y) : ∀ (k t : Nat), CapR N ov m y rt k t → CapR N ov m y' rt k t
  | 0, _, hc => hc
  | k + 1, t, hc => by
    obtain ⟨g, h1, h2, h3 | ⟨t2, h3, h4, h5, h6, h7⟩⟩ := hc
    · exact ⟨g, h1, h2, Or.inl h3⟩
    · exact ⟨g, h1, h2, Or.inr ⟨t2, h3, h4, h5, by omega, capR_m h k t2 h7⟩⟩
theorem sp_send9 {m : Mem} {N : Nat} (hN : N ≤ 24) {ov : Nat → Int} (h83 : ∀ i : Nat, i < N → m 83 i = ov i) {c : Nat → Nat → Int} {pos : Nat → Nat} (hch : ChnR m N ov c pos) {v1 : Int} {K76 : Int → Int → Int → Mem → Prop} {post : Int → Mem → Prop} : ∀ (q t : Nat) (x : Int), pos t < q → t < N → ov t < 0 → m 100 t < 100000000 → 0 < x → (∀ (y : Int) (rt k : Nat), 0 < y → y ≤ x → rt < N → 0 < ov rt → 0 < m 99 rt → CapR N ov m y rt k t → K76 v1 y rt m) → ∃ n : Nat, wp_X11_send_9 K76 post n v1 x t m := by
  intro q
  induction q with
  | zero => intro t x h; omega
  | succ q ih =>
    intro t x hq ht hov hd hx hK
    obtain ⟨g, hg, c1, c2, c3, c4, c5, c6⟩ := hch t ht hov hd
    have cg : 0 ≤ (g : Int) ∧ (g : Int) < 24 := by omega
    have ct : 0 ≤ (t : Int) ∧ (t : Int) < 24 := by omega
    have hgo := c2.1
    have first : ∀ n : Nat, wp_X11_send_9 K76 post n v1 x g m → wp_X11_send_9 K76 post (n + 1) v1 x t m := fun n hn => by
      unfold wp_X11_send_9
      rw [c1]
      refine ⟨ct, fun z => by omega, fun _ => ⟨ct, eqm ⟨cg, ?_⟩⟩⟩
      rw [h83 g hg]
      exact bt (by omega) hn
    rcases c6 with ⟨q1, q2, q3⟩ | ⟨t2, ht2, q0, q1, q2, q3, q4⟩
    · refine ⟨2, first 1 ?_⟩
      unfold wp_X11_send_9
      rw [q1]
      exact ⟨cg, fun _ => hK x g 1 hx (Int.le_refl _) hg hgo q2 ⟨g, hg, c1, Or.inl ⟨q1, rfl⟩⟩, fun z => absurd rfl z⟩
    · have ct2 : 0 ≤ (t2 : Int) ∧ (t2 : Int) < 24 := by omega
      have x2 := (ix24' cg ct2).2
      have ef : m 98 (24 * (g : Int) + t2) = fR m g t2 := rfl
      have hz : 0 < (if fR m g t2 < x then fR m g t2 else x) ∧ (if fR m g t2 < x then fR m g t2 else x) ≤ x ∧ (if fR m g t2 < x then fR m g t2 else x) ≤ fR m g t2 := by
        by_cases w : fR m g t2 < x
        · rw [if_pos w]; omega
        · rw [if_neg w]; omega
      obtain ⟨n, hn⟩ := ih t2 (if fR m g t2 < x then fR m g t2 else x) (by omega) ht2 q0 q3 hz.1 (fun y rt k y0 y1 hr1 hr2 hr3 hcp => hK y rt (k + 1) y0 (by omega) hr1 hr2 hr3 ⟨g, hg, c1, Or.inr ⟨t2, ht2, q0, q1, by omega, hcp⟩⟩)
      refine ⟨n + 1 + 1, first (n + 1) ?_⟩
      unfold wp_X11_send_9
      rw [q1]
      refine ⟨cg, fun z => by omega, fun _ => ⟨cg, eqm ⟨ct2, ?_⟩⟩⟩
      rw [h83 t2 ht2, (ix24' cg ct2).1, ef]
      refine bf (by omega) ⟨x2, fun z => ?_, fun z => ⟨x2, eqm ?_⟩⟩
      · rw [if_neg (by omega)] at hn; exact hn
      · rw [if_pos (by omega)] at hn; exact hn
theorem fR_set {m : Mem} {g t x y : Nat} {v : Int} (ht : t < 24) (hy : y < 24) : fR (mset m 98 (24 * (g : Int) + t) v) x y = if x = g ∧ y = t then v else fR m x y := by
  unfold fR
  rw [mset_at]
  by_cases c : x = g ∧ y = t
  · rw [if_pos c, if_pos (by rw [c.1, c.2]; exact ⟨rfl, rfl⟩)]
  · rw [if_neg c, if_neg (by omega)]
theorem sp_send119 {m : Mem} {N : Nat} (hN : N ≤ 24) {ov : Nat → Int} (h83 : ∀ i : Nat, i < N → m 83 i = ov i) {c : Nat → Nat → Int} {pos : Nat → Nat} (hch : ChnR m N ov c pos) {s dm p : Nat → Int} (hs : ∀ g : Nat, g < N → s g ≤ 50) (hp : ∀ x : Nat, x < N → m 100 x < 100000000 → p x = m 100 x) {z K : Int} (hz : 0 < z ∧ z ≤ 50) {rt : Nat} {to : Nat} (hto : to < N) {mb : Mem} {aV a' w : Nat → Int} (hra : z ≤ aV rt ∧ a' rt = aV rt - z ∧ ∀ x : Nat, x < N → x ≠ rt → a' x = aV x) (hmb : ∀ x i : Int, ¬ (x = 98 ∨ x = 99) → mb x i = m x i) {post : Int → Mem → Prop} (H : ∀ m' : Mem, (∀ x i : Int, ¬ x = 98 → m' x i = mb x i) → SF N N (opR ov) c s dm p p K a' w (fR m') → post (w32 (z * m 100 to)) m') : ∀ (k t : Nat) (m' : Mem), CapR N ov m z rt k t → t < N → ov t < 0 → m 100 t < 100000000 → (∀ x i : Int, ¬ x = 98 → m' x i = mb x i) → SI N N (opR ov) c s dm p p z K aV w (fR m') t → (∀ g : Nat, g < N → pos g < pos t → ∀ y : Nat, y < N → fR m' g y = fR m g y) → ∃ n : Nat, wp_X11_send_119 post n to z t m' := by
  intro k
  induction k with
  | zero => intro t m' h; exact absurd h id
  | succ k ih =>
    intro t m' hcap ht hov hd hf hSI hfr
    obtain ⟨g, hg, c1, c2, c3, c4, c5, c6⟩ := hch t ht hov hd
    obtain ⟨g', hg', c1', hor⟩ := hcap
    have : g' = g := by omega
    subst this
    have cg : 0 ≤ (g' : Int) ∧ (g' : Int) < 24 := by omega
    have ct : 0 ≤ (t : Int) ∧ (t : Int) < 24 := by omega
    have cto : 0 ≤ (to : Int) ∧ (to : Int) < 24 := by omega
    have x2 := (ix24' cg ct).2
    have hgo := c2.1
    have g101 : ∀ (m2 : Mem) (x : Int), (∀ x i : Int, ¬ x = 98 → m2 x i = mb x i) → m2 101 x = m 101 x := fun m2 x h => by rw [h 101 x (by omega), hmb 101 x (by omega)]
    have g83 : ∀ (m2 : Mem) (x : Nat), x < N → (∀ x i : Int, ¬ x = 98 → m2 x i = mb x i) → m2 83 x = ov x := fun m2 x hx h => by rw [h 83 x (by omega), hmb 83 x (by omega)]; exact h83 x hx
    have hfb : ∀ x y : Nat, x < N → y < N → 0 ≤ fR m' x y ∧ fR m' x y ≤ 50 := fun x y hx hy => by
      have b1 := (hSI.2.2.1 x y hx hy).1
      have b2 : 0 ≤ aV x ∧ aV x + sumg (fun t => fR m' x t) N = s x := hSI.1 x hx
      have b3 := le_sumg (g := fun t => fR m' x t) (i := y) N hy (fun z hz => (hSI.2.2.1 x z hx hz).1)
      have b4 := hs x hx
      exact ⟨b1, by omega⟩
    have hb := hfb g' t hg ht
    have htight : p t = p g' + c g' t := by rw [hp t ht hd, hp g' hg c3]; exact c4
    have ef : m' 98 (24 * (g' : Int) + t) = fR m' g' t := rfl
    have f1e : fR (mset m' 98 (24 * (g' : Int) + t) (fR m' g' t + z)) g' t = fR m' g' t + z := by rw [fR_set (by omega) (by omega), if_pos ⟨rfl, rfl⟩]
    have f1n : ∀ x y : Nat, x < N → y < N → ¬ (x = g' ∧ y = t) → fR (mset m' 98 (24 * (g' : Int) + t) (fR m' g' t + z)) x y = fR m' x y := fun x y _ hy hn => by rw [fR_set (by omega) (by omega), if_neg hn]
    have hf1 : ∀ x i : Int, ¬ x = 98 → mset m' 98 (24 * (g' : Int) + t) (fR m' g' t + z) x i = mb x i := fun x i hx => by rw [mset_ne (fun q => hx q.1)]; exact hf x i hx
    have first : ∀ n : Nat, wp_X11_send_119 post n to z g' (mset m' 98 (24 * (g' : Int) + t) (fR m' g' t + z)) → wp_X11_send_119 post (n + 1) to z t m' := fun n hn => by
      unfold wp_X11_send_119
      rw [g101 m' t hf, c1]
      refine ⟨ct, fun q => by omega, fun _ => ⟨ct, eqm ⟨cg, ?_⟩⟩⟩
      rw [g83 m' g' hg hf, (ix24' cg ct).1, ef, w32_i (x := fR m' g' t + z) (by omega)]
      exact bf (by omega) ⟨x2, x2, eqm hn⟩
    rcases c6 with ⟨q1, q2, q3⟩ | ⟨t2, ht2, q0, q1, q2, q3, q4⟩
    · have hrt : g' = rt := by
        rcases hor with w | ⟨t3, -, -, w, -⟩
        · exact w.2
        · omega
      refine ⟨2, first 1 ?_⟩
      have fin := H _ hf1 (si_root hz.1 ht hSI hg c2 htight (by rw [hp g' hg c3]; exact q3) (by rw [hrt]; exact hra.1) (a' := a') (f' := fR (mset m' 98 (24 * (g' : Int) + t) (fR m' g' t + z))) (by rw [hrt]; exact hra.2.1) (fun x hx hn => hra.2.2 x hx (by rw [← hrt]; exact hn)) f1e f1n)
      unfold wp_X11_send_119
      rw [g101 _ g' hf1, q1, hf1 100 to (by omega), hmb 100 to (by omega)]
      exact ⟨cg, fun _ => ⟨cto, fin⟩, fun q => absurd rfl q⟩
    · obtain ⟨t3, ht3, w0, w1, w2, w3⟩ : ∃ t3 : Nat, t3 < N ∧ ov t3 < 0 ∧ m 101 g' = t3 ∧ z ≤ fR m g' t3 ∧ CapR N ov m z rt k t3 := by
        rcases hor with w | w
        · omega
        · exact w
      have : t3 = t2 := by omega
      subst this
      have hne : t3 ≠ t := fun w => by subst w; omega
      have hfe := hfr g' hg c5 t3 ht3
      have ct3 : 0 ≤ (t3 : Int) ∧ (t3 : Int) < 24 := by omega
      have y2 := (ix24' cg ct3).2
      have hb3 := hfb g' t3 hg ht3
      have ef2 : mset m' 98 (24 * (g' : Int) + t) (fR m' g' t + z) 98 (24 * (g' : Int) + t3) = fR m' g' t3 := f1n g' t3 hg ht3 (fun z => hne z.2)
      have st := si_back hz.1 ht hSI hg ht3 hne c2 htight (by omega) (f1 := fR (mset m' 98 (24 * (g' : Int) + t) (fR m' g' t + z))) (f' := fR (mset (mset m' 98 (24 * (g' : Int) + t) (fR m' g' t + z)) 98 (24 * (g' : Int) + t3) (fR m' g' t3 - z))) f1e f1n (by rw [fR_set (by omega) (by omega), if_pos ⟨rfl, rfl⟩, f1n g' t3 hg ht3 (fun z => hne z.2)]; omega) (fun x y hx hy hn => by rw [fR_set (by omega) (by omega), if_neg hn])
      obtain ⟨n, hn⟩ := ih t3 _ w3 ht3 w0 q3 (fun x i hx => by rw [mset_ne (fun q => hx q.1)]; exact hf1 x i hx) st (fun x hx hpx y hy => by
        have hxg : ¬ x = g' := fun w => by subst w; omega
        rw [fR_set (by omega) (by omega), if_neg (fun z => hxg z.1), fR_set (by omega) (by omega), if_neg (fun z => hxg z.1)]
        exact hfr x hx (by omega) y hy)
      refine ⟨n + 1 + 1, first (n + 1) ?_⟩
      unfold wp_X11_send_119
      rw [g101 _ g' hf1, q1]
      refine ⟨cg, fun q => by omega, fun _ => ⟨cg, eqm ⟨ct3, ?_⟩⟩⟩
      rw [g83 _ t3 ht3 hf1, (ix24' cg ct3).1, ef2, w32_i (x := fR m' g' t3 - z) (by omega)]
      exact bt (by omega) ⟨y2, y2, eqm hn⟩
/-- all is sent for least, or can't be: told by places -/
def RRes (ov : Nat → Int) (N : Nat) (c : Nat → Nat → Int) (r : Int) : Prop := (∃ (a w : Nat → Int) (f : Nat → Nat → Int) (p : Nat → Int), FLw N N (opR ov) (sR ov) (dR ov) a w f ∧ (∀ t : Nat, t < N → w t = 0) ∧ PTd N N (opR ov) c (sR ov) p p ∧ PTt N N c a f p p ∧ r = cstF c f N N) ∨ ((∃ U W : Nat → Bool, NCt N N (opR ov) (sR ov) (dR ov) U W) ∧ r = -1)
theorem aR_p {ov : Nat → Int} {m : Mem} {i : Nat} (h : 0 < ov i) : aR ov m i = m 99 i := if_pos h
theorem aR_n {ov : Nat → Int} {m : Mem} {i : Nat} (h : ¬ 0 < ov i) : aR ov m i = 0 := if_neg h
theorem wR_p {ov : Nat → Int} {m : Mem} {i : Nat} (h : ov i < 0) : wR ov m i = m 99 i := if_pos h
theorem wR_n {ov : Nat → Int} {m : Mem} {i : Nat} (h : ¬ ov i < 0) : wR ov m i = 0 := if_neg h
theorem sp_lpR {m0 : Mem} {n : Nat} {ov : Nat → Int} {nr : Int → Int} {st : Int} (hD : RfD m0 n ov nr st) {post : Int → Mem → Prop} (H : ∀ (m : Mem) (r : Int), (∀ x i : Int, ¬ (98 ≤ x ∧ x ≤ 101) → m x i = m0 x i) → RRes ov (3 * n) (ctp nr st) r → post r m) : ∀ (s : Nat) (m : Mem) (p : Nat → Int), (∀ x i : Int, ¬ (98 ≤ x ∧ x ≤ 101) → m x i = m0 x i) → FLw (3 * n) (3 * n) (opR ov) (sR ov) (dR ov) (aR ov m) (wR ov m) (fR m) → PTd (3 * n) (3 * n) (opR ov) (ctp nr st) (sR ov) p p → PTt (3 * n) (3 * n) (ctp nr st) (aR ov m) (fR m) p p → sumg (wR ov m) (3 * n) ≤ (s : Int) → wp_X11_least_82 (fun v1_6 v3_6 m_6 => ((v3_6 = 0 → (post v1_6 m_6)) ∧ (¬ v3_6 = 0 → (post (-1) m_6)))) post (s + 1) (cstF (ctp nr st) (fR m) (3 * n) (3 * n)) m := by
  have h8 := hD.1
  have hN24 : 3 * n ≤ 24 := by omega
  have hc : ∀ i j : Nat, i < 3 * n → j < 3 * n → opR ov i j → 0 ≤ ctp nr st i j ∧ ctp nr st i j ≤ 1000 := fun i j hi hj ho => (ctp_b hD.2.2.2.1 (fun a b a0 a1 b0 b1 => (hD.2.2.2.2.2 a b a0 a1 b0 b1).2) hi hj ho.2.2).1
  have hO : OpOk (3 * n) (3 * n) (opR ov) (ctp nr st) (sR ov) := fun g t hg ht ho => ⟨(hc g t hg ht ho).1, (hc g t hg ht ho).2, by unfold sR; rw [if_pos ho.1]; exact ho.1⟩
  have hs50 : ∀ g : Nat, g < 3 * n → sR ov g ≤ 50 := fun g hg => by
    have := (hD.2.2.2.2.1 g hg).2
    unfold sR
    by_cases q : 0 < ov g
    · rw [if_pos q]; omega
    · rw [if_neg q]; decide
  have hd50 : ∀ t : Nat, t < 3 * n → dR ov t ≤ 50 := fun g hg => by
    have := (hD.2.2.2.2.1 g hg).2
    unfold dR
    by_cases q : ov g < 0
    · rw [if_pos q]; omega
    · rw [if_neg q]; decide
  have body : ∀ (m : Mem) (p : Nat → Int), (∀ x i : Int, ¬ (98 ≤ x ∧ x ≤ 101) → m x i = m0 x i) → FLw (3 * n) (3 * n) (opR ov) (sR ov) (dR ov) (aR ov m) (wR ov m) (fR m) → PTd (3 * n) (3 * n) (opR ov) (ctp nr st) (sR ov) p p → PTt (3 * n) (3 * n) (ctp nr st) (aR ov m) (fR m) p p → ∀ s : Nat, (∀ (m' : Mem) (p' : Nat → Int), (∀ x i : Int, ¬ (98 ≤ x ∧ x ≤ 101) → m' x i = m0 x i) → FLw (3 * n) (3 * n) (opR ov) (sR ov) (dR ov) (aR ov m') (wR ov m') (fR m') → PTd (3 * n) (3 * n) (opR ov) (ctp nr st) (sR ov) p' p' → PTt (3 * n) (3 * n) (ctp nr st) (aR ov m') (fR m') p' p' → sumg (wR ov m') (3 * n) < sumg (wR ov m) (3 * n) → wp_X11_least_82 (fun v1_6 v3_6 m_6 => ((v3_6 = 0 → (post v1_6 m_6)) ∧ (¬ v3_6 = 0 → (post (-1) m_6)))) post s (cstF (ctp nr st) (fR m') (3 * n) (3 * n)) m') → wp_X11_least_82 (fun v1_6 v3_6 m_6 => ((v3_6 = 0 → (post v1_6 m_6)) ∧ (¬ v3_6 = 0 → (post (-1) m_6)))) post (s + 1) (cstF (ctp nr st) (fR m) (3 * n) (3 * n)) m := by
    intro m p hf hF hP hQ s ih
    have hDm := rfd_fr hf hD
    have hp0 : ∀ x : Nat, x < 3 * n → 0 < ov x → 0 ≤ p x := fun x hx ho => hP.2 x hx (by unfold sR; rw [if_pos ho]; exact ho)
    have hfo : ∀ i j : Nat, i < 3 * n → j < 3 * n → 0 < fR m i j → opR ov i j := fun i j hi hj h => (hF.2.2 i j hi hj).2 h
    have hLG : LG (3 * n) (ArR (3 * n) ov (ctp nr st) m) (rtR (3 * n) ov m) p := by
      refine ⟨fun u v k hA => ?_, fun x hx hr => hQ.2 x hx (by rw [aR_p hr.2.1]; exact hr.2.2)⟩
      obtain ⟨a1, a2, ⟨b1, b2⟩ | ⟨b1, b2, b3⟩⟩ := hA
      · have := hP.1 u v a1 a2 b1
        have := (hc u v a1 a2 b1).2
        exact ⟨a1, a2, by omega, by omega⟩
      · have := hQ.1 v u a2 a1 b2
        have := (hc v u a2 a1 b1).1
        exact ⟨a1, a2, by omega, by omega⟩
    unfold wp_X11_least_82
    refine sp_labelR hDm hc hp0 hLG hfo (fun m1 hRE => ?_)
    have f1 : ∀ x i : Int, ¬ (98 ≤ x ∧ x ≤ 101) → m1 x i = m0 x i := fun x i hx => by rw [hRE.1.1 x i (by omega)]; exact hf x i hx
    have hD1 := rfd_fr f1 hD
    have r99 : m1 99 = m 99 := funext fun i => hRE.1.1 99 i (by omega)
    have r98 : m1 98 = m 98 := funext fun i => hRE.1.1 98 i (by omega)
    have ra : aR ov m1 = aR ov m := by unfold aR; rw [r99]
    have rw' : wR ov m1 = wR ov m := by unfold wR; rw [r99]
    have rf : fR m1 = fR m := by unfold fR; rw [r98]
    have hLE : LEn (3 * n) (3 * n) (opR ov) (ctp nr st) (aR ov m) (fR m) p p 100000000 (fun x => m1 100 x) (fun x => m1 100 x) := by
      obtain ⟨⟨hfr, rk, hL⟩, hLF⟩ := hRE
      refine ⟨fun g t hg ht ho hd => hLF g t (ctp nr st g t) ⟨hg, ht, Or.inl ⟨ho, rfl⟩⟩ hd, fun g t hg ht hff hd => ?_, fun g hg hd => ⟨((hL.1 g hg).2 hd).1, lv_up hL (by omega) hg hd⟩, fun g hg ha => ?_⟩
      · have h1 : m1 100 g ≤ m1 100 t + -ctp nr st g t := hLF t g (-ctp nr st g t) ⟨ht, hg, Or.inr ⟨hfo g t hg ht hff, hff, rfl⟩⟩ hd
        show m1 100 g ≤ m1 100 t - ctp nr st g t
        omega
      · by_cases q : 0 < ov g
        · rw [aR_p q] at ha
          exact lv_root (by decide) hLG hL hg ⟨hg, q, ha⟩
        · rw [aR_n q] at ha; exact absurd ha (by decide)
    obtain ⟨hP', hQ'⟩ := le_next (by decide) hO hF hP hQ hLE
    refine sp_pick hD1 (fun t ht hov hw hd => nt (by omega) ?_) (fun hno => nf rfl (z0 (H m1 _ f1 (Or.inl ⟨_, _, _, p, hF, fun t ht => ?_, hP, hQ, rfl⟩)))) (fun hun hex => nf rfl (z1 (H m1 _ f1 (Or.inr ⟨?_, rfl⟩))))
    · -- a sending
      obtain ⟨pos, hch⟩ := chainR hRE
      have h83 : ∀ i : Nat, i < 3 * n → m1 83 i = ov i := fun i hi => (hD1.2.2.2.2.1 i hi).1
      have ct : 0 ≤ (t : Int) ∧ (t : Int) < 24 := by omega
      have hwt := hF.2.1 t ht
      have hwl : m1 99 t ≤ 50 := by
        have h1 := hd50 t ht
        have h2 := sumg_n (g := fun g => fR m g t) (3 * n) (fun g hg => (hF.2.2 g t hg ht).1)
        have h3 : wR ov m t + sumg (fun g => fR m g t) (3 * n) = dR ov t := hwt.2
        rw [wR_p hov] at h3
        rw [r99]
        omega
      have hb100 : 0 ≤ m1 100 t ∧ m1 100 t ≤ 1000000 := by
        have h1 := (ri_r hc hp0 hRE.1 ht).1
        obtain ⟨⟨hfr, rk, hL⟩, hLF⟩ := hRE
        have h2 : m1 100 t ≤ 48000 := lv_up hL (by omega) ht hd
        omega
      -- the rest, for the found amount
      have go : ∀ (z : Int) (rt k : Nat), 0 < z → z ≤ m1 99 t → rt < 3 * n → 0 < ov rt → z ≤ m1 99 rt → CapR (3 * n) ov m1 z rt k t → wp_X11_send_96 t rt z m1 (fun r190 m190 => ∀ v1_194 : Int, v1_194 = w32 (cstF (ctp nr st) (fR m) (3 * n) (3 * n) + r190) → (wp_X11_least_82 (fun v1_6 v3_6 m_6 => ((v3_6 = 0 → (post v1_6 m_6)) ∧ (¬ v3_6 = 0 → (post (-1) m_6)))) post s v1_194 m190)) := fun z rt k z0 z1 hrt hort zrt hcap => by
        have crt : 0 ≤ (rt : Int) ∧ (rt : Int) < 24 := by omega
        have hne : rt ≠ t := fun w => by subst w; omega
        have hr50 : m1 99 rt ≤ 50 := by
          have h1 := hs50 rt hrt
          have h2 := sumg_n (g := fun t => fR m rt t) (3 * n) (fun t ht => (hF.2.2 rt t hrt ht).1)
          have h3 : aR ov m rt + sumg (fun t => fR m rt t) (3 * n) = sR ov rt := (hF.1 rt hrt).2
          rw [aR_p hort] at h3
          rw [r99]
          omega
        unfold wp_X11_send_96
        refine ⟨crt, crt, eqm ⟨ct, ct, eqm ?_⟩⟩
        rw [mset_ne (show ¬ ((99 : Int) = 99 ∧ (t : Int) = (rt : Int)) by omega), w32_i (x := m1 99 rt - z) (by omega), w32_i (x := m1 99 t - z) (by omega)]
        generalize hmb : mset (mset m1 99 rt (m1 99 rt - z)) 99 t (m1 99 t - z) = mb
        have b99 : ∀ x : Nat, mb 99 x = if x = t then m1 99 t - z else if x = rt then m1 99 rt - z else m1 99 x := fun x => by
          rw [← hmb]
          by_cases c1 : x = t
          · rw [if_pos c1, c1, mset_same]
          · rw [if_neg c1, mset_ne (by omega)]
            by_cases c2 : x = rt
            · rw [if_pos c2, c2, mset_same]
            · rw [if_neg c2, mset_ne (by omega)]
        have bfr : ∀ x i : Int, ¬ x = 99 → mb x i = m1 x i := fun x i hx => by rw [← hmb, mset_ne (fun q => hx q.1), mset_ne (fun q => hx q.1)]
        have bf98 : fR mb = fR m := by
          rw [← rf]
          unfold fR
          rw [show mb 98 = m1 98 from funext fun i => bfr 98 i (by omega)]
        have bw : ∀ x : Nat, wR ov mb x = if x = t then m1 99 t - z else wR ov m x := fun x => by
          by_cases c1 : x = t
          · rw [if_pos c1, c1, wR_p hov, b99, if_pos rfl]
          · rw [if_neg c1]
            by_cases c2 : ov x < 0
            · rw [wR_p c2, wR_p c2, b99, if_neg c1, if_neg (fun w => by subst w; omega), r99]
            · rw [wR_n c2, wR_n c2]
        have ba : ∀ x : Nat, aR ov mb x = if x = rt then m1 99 rt - z else aR ov m x := fun x => by
          by_cases c1 : x = rt
          · rw [if_pos c1, c1, aR_p hort, b99, if_neg hne, if_pos rfl]
          · rw [if_neg c1]
            by_cases c2 : 0 < ov x
            · rw [aR_p c2, aR_p c2, b99, if_neg (fun w => by subst w; omega), if_neg c1, r99]
            · rw [aR_n c2, aR_n c2]
        clear hmb
        have hz50 : 0 < z ∧ z ≤ 50 := by omega
        have hzp := mul_c hz50 hb100
        have hcb0 := cost_b hN24 hO hF hs50
        refine sp_send119 (m := m1) hN24 h83 hch (s := sR ov) (dm := dR ov) (p := nxp 100000000 (fun x => m1 100 x) p) hs50 (fun x _ h => nxp_f h) (z := z) (K := cstF (ctp nr st) (fR m) (3 * n) (3 * n) + z * m1 100 t) hz50 (rt := rt) (to := t) ht (mb := mb) (aV := aR ov m) (a' := aR ov mb) (w := wR ov mb) ⟨?_, ?_, fun x _ hn => ?_⟩ (fun x i hx => bfr x i (by omega)) (fun m2 hf2 hSF => ?_) k t mb hcap ht hov hd (fun _ _ _ => rfl) ?_ (fun g _ _ y _ => by rw [bf98, rf])
        · rw [aR_p hort, ← r99]; exact zrt
        · rw [ba, if_pos rfl, aR_p hort, r99]
        · rw [ba, if_neg hn]
        · have e99 : m2 99 = mb 99 := funext fun i => hf2 99 i (by omega)
          have ea : aR ov m2 = aR ov mb := by unfold aR; rw [e99]
          have ew : wR ov m2 = wR ov mb := by unfold wR; rw [e99]
          obtain ⟨s1, s2, s3, s4⟩ := hSF
          have hF2 : FLw (3 * n) (3 * n) (opR ov) (sR ov) (dR ov) (aR ov m2) (wR ov m2) (fR m2) := by
            rw [ea, ew]
            exact ⟨s1, s2, fun g t hg ht => ⟨(s3 g t hg ht).1, fun h => ((s3 g t hg ht).2 h).1⟩⟩
          have hcb := cost_b hN24 hO hF2 hs50
          refine eqm ?_
          rw [w32_i (x := z * m1 100 t) (by omega), w32_i (by omega), ← s4]
          refine ih m2 (nxp 100000000 (fun x => m1 100 x) p) (fun x i hx => by rw [hf2 x i (by omega), bfr x i (by omega)]; exact f1 x i hx) hF2 hP' ⟨fun g t hg ht h => ((s3 g t hg ht).2 h).2, fun g hg h => hQ'.2 g hg ?_⟩ ?_
          · rw [ea, ba] at h
            by_cases c : g = rt
            · rw [c, aR_p hort, ← r99]; omega
            · rw [if_neg c] at h; exact h
          · rw [ew]
            have h1 := sumg_up (g := wR ov m) (g' := wR ov mb) (i := t) (v := -z) (3 * n) ht (by rw [bw, if_pos rfl, wR_p hov, r99]; omega) (fun x _ hn => by rw [bw, if_neg hn])
            omega
        · rw [bf98]
          refine ⟨hF.1, fun x hx => ?_, fun g x hg hx => ⟨(hF.2.2 g x hg hx).1, fun h => ⟨(hF.2.2 g x hg hx).2 h, hQ'.1 g x hg hx h⟩⟩, by rw [nxp_f hd]⟩
          have h1 := hF.2.1 x hx
          rw [bw]
          by_cases c : x = t
          · rw [if_pos c, if_pos c]
            rw [c] at h1 ⊢
            rw [wR_p hov, ← r99] at h1
            omega
          · rw [if_neg c, if_neg c, Int.add_zero]
            exact h1
      refine ⟨ct, eqm ?_⟩
      refine sp_send9 hN24 h83 hch (pos t + 1) t (m1 99 t) (by omega) ht hov hd hw (fun y rt k y0 y1 hrt hort hwr hcap => ⟨by omega, fun q => go y rt k y0 y1 hrt hort q hcap, fun q => ⟨by omega, go (m1 99 rt) rt k hwr (by omega) hrt hort (Int.le_refl _) (capR_m (by omega) k t hcap)⟩⟩)
    · by_cases q : ov t < 0
      · have h1 := hno t ht q
        have h2 := (hF.2.1 t ht).1
        rw [wR_p q] at h2
        rw [r99] at h1
        rw [wR_p q]
        omega
      · exact wR_n q
    · obtain ⟨t0, ht0, ho0, hw0⟩ := hex
      refine ⟨_, _, le_nc (by decide) hO hF hLE (fun t ht hwt => ?_) ht0 (by rw [wR_p ho0, ← r99]; exact hw0)⟩
      by_cases q : ov t < 0
      · rw [wR_p q, ← r99] at hwt
        exact hun t ht q hwt
      · rw [wR_n q] at hwt; exact absurd hwt (by decide)
  intro s
  induction s with
  | zero =>
    intro m p hf hF hP hQ hs
    refine body m p hf hF hP hQ 0 (fun m' p' _ hF' _ _ hlt => ?_)
    have := sumg_n (g := wR ov m') (3 * n) (fun t ht => (hF'.2.1 t ht).1)
    omega
  | succ s ih =>
    intro m p hf hF hP hQ hs
    exact body m p hf hF hP hQ (s + 1) (fun m' p' a b c d hlt => ih m' p' a b c d (by omega))
theorem sp_leastR {n : Nat} (hn : n ≤ 8) {m : Mem} (h67 : m 67 0 = n) {ov : Nat → Int} (hov : ∀ i : Nat, i < 3 * n → m 83 i = ov i ∧ -50 ≤ ov i ∧ ov i ≤ 50) {st : Int} (h25 : m 67 25 = st) (hst : 0 ≤ st ∧ st ≤ 99) (hb : ∀ i j : Int, 0 ≤ i → i < n → 0 ≤ j → j < n → i ≠ j → 0 ≤ m 68 (8 * i + j) ∧ m 68 (8 * i + j) ≤ 99) {nr : Int → Int} (hnr : ∀ B : Int → Int, (∀ i : Int, 0 ≤ i → i < n → B (8 * i + i) = 0) → (∀ i j : Int, 0 ≤ i → i < n → 0 ≤ j → j < n → i ≠ j → B (8 * i + j) = m 68 (8 * i + j)) → ∀ a b : Int, 0 ≤ a → a < n → 0 ≤ b → b < n → mA n n B (8 * a + b) = nr (8 * a + b) ∧ 0 ≤ nr (8 * a + b) ∧ nr (8 * a + b) ≤ 99) {post : Int → Mem → Prop} (H : ∀ (m' : Mem) (r : Int), (∀ x i : Int, ¬ (86 ≤ x) → m' x i = m x i) → RRes ov (3 * n) (ctp nr st) r → post r m') : wp_X11_least m post := by
  unfold wp_X11_least
  refine sp_allLines hn h67 (fun r hr => sp_spread hn (by decide) h67 (fun q hq z => ?_) (fun B b1 b2 => ?_))
  · have w := (hr q hq).mp z
    have := hb ((q / 8 : Nat) : Int) ((q % 8 : Nat) : Int) (by omega) (by omega) (by omega) (by omega) (by omega)
    rw [show 8 * ((q / 8 : Nat) : Int) + ((q % 8 : Nat) : Int) = (q : Int) by omega] at this
    exact this
  have hB : ∀ i j : Int, 0 ≤ i → i < n → 0 ≤ j → j < n → i ≠ j → B (8 * i + j) = m 68 (8 * i + j) := fun i j i1 i2 j1 j2 ij => by
    have hbit : b64 r (8 * i + j) = 1 := by
      have := (hr (8 * i + j).toNat (by omega)).mpr ⟨by omega, by omega, by omega⟩
      rw [show (((8 * i + j).toNat : Nat) : Int) = 8 * i + j by omega] at this
      exact this
    rw [(b2 i j i1 i2 j1 j2 ij).1 hbit, Int.add_zero]
  have hnr' := hnr B b1 hB
  generalize hms : mrow m 86 (mA n n B) = ms
  have fs : ∀ x i : Int, ¬ x = 86 → ms x i = m x i := fun x i hx => by rw [← hms, mrow_ne hx]
  have e86 : ms 86 = mA n n B := by rw [← hms, mrow_s]
  clear hms
  have hDs : RfD ms n ov nr st := ⟨hn, by rw [fs 67 0 (by omega)]; exact h67, by rw [fs 67 25 (by omega)]; exact h25, hst, fun i hi => by rw [fs 83 i (by omega)]; exact hov i hi, fun a b a0 a1 b0 b1 => by rw [e86]; exact hnr' a b a0 a1 b0 b1⟩
  have eN : ∀ m' : Mem, m' 67 0 = n → w32 (3 * m' 67 0) = ((3 * n : Nat) : Int) := fun m' h => by rw [h, w32_i (by omega)]; omega
  have last : ∀ m' : Mem, (∀ x i : Int, ¬ (98 ≤ x ∧ x ≤ 101) → m' x i = ms x i) → (∀ i : Nat, i < 576 → m' 98 i = 0) → (∀ i : Nat, i < 3 * n → m' 99 i = if 0 ≤ ov i then ov i else -ov i) → ∃ k : Nat, wp_X11_least_82 (fun v1_6 v3_6 m_6 => ((v3_6 = 0 → (post v1_6 m_6)) ∧ (¬ v3_6 = 0 → (post (-1) m_6)))) post k 0 m' := fun m' hf h98 h99 => by
    have hf0 : ∀ g t : Nat, g < 3 * n → t < 3 * n → fR m' g t = 0 := fun g t hg ht => by
      have := h98 (24 * g + t) (by omega)
      rw [show ((24 * g + t : Nat) : Int) = 24 * (g : Int) + t by omega] at this
      exact this
    have ea : ∀ g : Nat, g < 3 * n → aR ov m' g = sR ov g ∧ 0 ≤ sR ov g := fun g hg => by
      unfold sR
      by_cases q : 0 < ov g
      · rw [aR_p q, if_pos q, h99 g hg, if_pos (by omega)]; omega
      · rw [aR_n q, if_neg q]; exact ⟨rfl, Int.le_refl _⟩
    have ew : ∀ t : Nat, t < 3 * n → wR ov m' t = dR ov t ∧ 0 ≤ dR ov t := fun g hg => by
      unfold dR
      by_cases q : ov g < 0
      · rw [wR_p q, if_pos q, h99 g hg, if_neg (by omega)]; omega
      · rw [wR_n q, if_neg q]; exact ⟨rfl, Int.le_refl _⟩
    have hc : ∀ i j : Nat, i < 3 * n → j < 3 * n → opR ov i j → 0 ≤ ctp nr st i j ∧ ctp nr st i j ≤ 1000 := fun i j hi hj ho => (ctp_b hst (fun a b a0 a1 b0 b1 => (hDs.2.2.2.2.2 a b a0 a1 b0 b1).2) hi hj ho.2.2).1
    have hF : FLw (3 * n) (3 * n) (opR ov) (sR ov) (dR ov) (aR ov m') (wR ov m') (fR m') := by
      refine ⟨fun g hg => ?_, fun t ht => ?_, fun g t hg ht => ?_⟩
      · have h1 := ea g hg
        have h2 : sumg (fun t => fR m' g t) (3 * n) = 0 := sumg_0 _ (fun t ht => hf0 g t hg ht)
        rw [h2]
        omega
      · have h1 := ew t ht
        have h2 : sumg (fun g => fR m' g t) (3 * n) = 0 := sumg_0 _ (fun g hg => hf0 g t hg ht)
        rw [h2]
        omega
      · rw [hf0 g t hg ht]; exact ⟨Int.le_refl _, fun z => absurd z (by decide)⟩
    have hcost : cstF (ctp nr st) (fR m') (3 * n) (3 * n) = 0 := sumg_0 _ (fun g hg => sumg_0 _ (fun t ht => by
      show ctp nr st g t * fR m' g t = 0
      rw [hf0 g t hg ht, Int.mul_zero]))
    have key := sp_lpR hDs (post := post) (fun m2 r2 h1 h2 => H m2 r2 (fun x i hx => by rw [h1 x i (by omega), fs x i (by omega)]) h2) (sumg (wR ov m') (3 * n)).toNat m' (fun _ => 0) hf hF ⟨fun g t hg ht ho => by have := (hc g t hg ht ho).1; show (0 : Int) ≤ 0 + ctp nr st g t; omega, fun _ _ _ => Int.le_refl _⟩ ⟨fun g t hg ht hff => by rw [hf0 g t hg ht] at hff; exact absurd hff (by decide), fun _ _ _ => rfl⟩ (by omega)
    rw [hcost] at key
    exact ⟨_, key⟩
  have l33 : ∀ (rem i : Nat) (m' : Mem), i + rem = 3 * n → (∀ x i : Int, ¬ (98 ≤ x ∧ x ≤ 101) → m' x i = ms x i) → (∀ i : Nat, i < 576 → m' 98 i = 0) → (∀ x : Nat, x < i → m' 99 x = if 0 ≤ ov x then ov x else -ov x) → wp_X11_least_33 (fun v1_2 m_2 => ∃ n_7 : Nat, wp_X11_least_82 (fun v1_6 v3_6 m_6 => ((v3_6 = 0 → (post v1_6 m_6)) ∧ (¬ v3_6 = 0 → (post (-1) m_6)))) post n_7 v1_2 m_2) post (rem + 1) i m' := by
    intro rem
    induction rem with
    | zero =>
      intro i m' hi hf h98 h99
      have : i = 3 * n := by omega
      subst this
      unfold wp_X11_least_33
      rw [eN m' (by rw [hf 67 0 (by omega)]; exact hDs.2.1)]
      exact bt (Int.le_refl _) (last m' hf h98 h99)
    | succ rem ih =>
      intro i m' hi hf h98 h99
      have hiN : i < 3 * n := by omega
      have ci : 0 ≤ (i : Int) ∧ (i : Int) < 24 := by omega
      have ho := hDs.2.2.2.2.1 i hiN
      have nx : ∀ v : Int, v = (if 0 ≤ ov i then ov i else -ov i) → wp_X11_least_33 (fun v1_2 m_2 => ∃ n_7 : Nat, wp_X11_least_82 (fun v1_6 v3_6 m_6 => ((v3_6 = 0 → (post v1_6 m_6)) ∧ (¬ v3_6 = 0 → (post (-1) m_6)))) post n_7 v1_2 m_2) post (rem + 1) ((i + 1 : Nat) : Int) (mset m' 99 i v) := fun v hv => ih (i + 1) _ (by omega) (fun x k hx => by rw [mset_ne (fun z => hx (by omega))]; exact hf x k hx) (fun x hx => by rw [mset_r (by decide)]; exact h98 x hx) (fun x hx => by
        by_cases c : x = i
        · rw [c, mset_same]; exact hv
        · rw [mset_ne (by omega)]; exact h99 x (by omega))
      unfold wp_X11_least_33
      rw [eN m' (by rw [hf 67 0 (by omega)]; exact hDs.2.1), i1 i (by omega), hf 83 i (by omega), ho.1, w32_i (x := -ov i) (by omega)]
      exact bf (by omega) ⟨ci, fun q => ⟨ci, ci, eqm (nx _ (by rw [if_pos q]))⟩, fun q => ⟨ci, ci, eqm (nx _ (by rw [if_neg q]))⟩⟩
  have l11 : ∀ (rem k : Nat) (m' : Mem), k + rem = 576 → (∀ x i : Int, ¬ (98 ≤ x ∧ x ≤ 101) → m' x i = ms x i) → (∀ x : Nat, x < k → m' 98 x = 0) → wp_X11_least_11 (fun v1_1 m_1 => ∃ n_8 : Nat, wp_X11_least_33 (fun v1_2 m_2 => ∃ n_7 : Nat, wp_X11_least_82 (fun v1_6 v3_6 m_6 => ((v3_6 = 0 → (post v1_6 m_6)) ∧ (¬ v3_6 = 0 → (post (-1) m_6)))) post n_7 v1_2 m_2) post n_8 v1_1 m_1) post (rem + 1) k m' := by
    intro rem
    induction rem with
    | zero =>
      intro k m' hk hf h98
      have : k = 576 := by omega
      subst this
      unfold wp_X11_least_11
      exact bt (by decide) ⟨3 * n + 1, l33 (3 * n) 0 m' (by omega) hf h98 (fun x hx => by omega)⟩
    | succ rem ih =>
      intro k m' hk hf h98
      unfold wp_X11_least_11
      rw [i1 k (by omega)]
      exact bf (by omega) ⟨by omega, eqm (ih (k + 1) _ (by omega) (fun x i hx => by rw [mset_ne (fun z => hx (by omega))]; exact hf x i hx) (fun x hx => by
        by_cases c : x = k
        · rw [c, mset_same]
        · rw [mset_ne (by omega)]; exact h98 x (by omega)))⟩
  exact ⟨577, l11 576 0 ms (by omega) (fun _ _ _ => rfl) (fun x hx => by omega)⟩
/-- what is told by places, told by lists -/
theorem res_eq {m : Mem} {n : Nat} {nr : Int → Int} {st r r' : Int} (hC : CRes m n nr st r) (hR : RRes (fun i => m 48 i) (3 * n) (ctp nr st) r') : r = r' := by
  obtain ⟨G, T, gv, tv, op, c, hgv, htv, qG, qT, hop, hC⟩ := hC
  have sg : ∀ g : Nat, g < G → sR (fun i => m 48 i) (gv g) = m 48 (gv g : Int) := fun g hg => if_pos (hgv g hg).2
  have dt : ∀ t : Nat, t < T → dR (fun i => m 48 i) (tv t) = -m 48 (tv t : Int) := fun t ht => if_pos (htv t ht).2
  have opx : ∀ g t : Nat, g < G → t < T → (opR (fun i => m 48 i) (gv g) (tv t) ↔ op g t) := fun g t hg ht => ⟨fun h => (hop g t hg ht).1.mpr h.2.2, fun h => ⟨(hgv g hg).2, (htv t ht).2, (hop g t hg ht).1.mp h⟩⟩
  -- the reference's sending, told by lists
  have convF : ∀ (a w : Nat → Int) (f : Nat → Nat → Int), FLw (3 * n) (3 * n) (opR (fun i => m 48 i)) (sR (fun i => m 48 i)) (dR (fun i => m 48 i)) a w f → FLw G T op (fun g => m 48 (gv g : Int)) (fun t => -m 48 (tv t : Int)) (fun g => a (gv g)) (fun t => w (tv t)) (fun g t => f (gv g) (tv t)) ∧ cstF c (fun g t => f (gv g) (tv t)) G T = cstF (ctp nr st) f (3 * n) (3 * n) := fun a w f hF => by
    have z1 : ∀ i j : Nat, i < 3 * n → j < 3 * n → ¬ m 48 j < 0 → f i j = 0 := fun i j hi hj hn => by
      have h1 := hF.2.2 i j hi hj
      by_cases q : 0 < f i j
      · exact absurd (h1.2 q).2.1 hn
      · omega
    have z2 : ∀ i j : Nat, i < 3 * n → j < 3 * n → ¬ 0 < m 48 i → f i j = 0 := fun i j hi hj hn => by
      have h1 := hF.2.2 i j hi hj
      by_cases q : 0 < f i j
      · exact absurd (h1.2 q).1 hn
      · omega
    refine ⟨⟨fun g hg => ?_, fun t ht => ?_, fun g t hg ht => ?_⟩, ?_⟩
    · have h1 := hF.1 (gv g) (hgv g hg).1
      have h2 : sumg (fun t => f (gv g) (tv t)) T = sumg (fun j => f (gv g) j) (3 * n) := by
        rw [qT (fun j => f (gv g) j)]
        exact sumg_e _ (fun j hj => by
          show (if m 48 j < 0 then f (gv g) j else 0) = f (gv g) j
          by_cases q : m 48 j < 0
          · rw [if_pos q]
          · rw [if_neg q, z1 (gv g) j (hgv g hg).1 hj q])
      show 0 ≤ a (gv g) ∧ a (gv g) + sumg (fun t => f (gv g) (tv t)) T = m 48 (gv g : Int)
      rw [h2, ← sg g hg]
      exact h1
    · have h1 := hF.2.1 (tv t) (htv t ht).1
      have h2 : sumg (fun g => f (gv g) (tv t)) G = sumg (fun i => f i (tv t)) (3 * n) := by
        rw [qG (fun i => f i (tv t))]
        exact sumg_e _ (fun i hi => by
          show (if 0 < m 48 i then f i (tv t) else 0) = f i (tv t)
          by_cases q : 0 < m 48 i
          · rw [if_pos q]
          · rw [if_neg q, z2 i (tv t) hi (htv t ht).1 q])
      show 0 ≤ w (tv t) ∧ w (tv t) + sumg (fun g => f (gv g) (tv t)) G = -m 48 (tv t : Int)
      rw [h2, ← dt t ht]
      exact h1
    · have h1 := hF.2.2 (gv g) (tv t) (hgv g hg).1 (htv t ht).1
      exact ⟨h1.1, fun h => (opx g t hg ht).mp (h1.2 h)⟩
    · have e1 : cstF c (fun g t => f (gv g) (tv t)) G T = sumg (fun g => sumg (fun j => ctp nr st (gv g) j * f (gv g) j) (3 * n)) G := sumg_e G (fun g hg => by
        have e2 : sumg (fun t => c g t * f (gv g) (tv t)) T = sumg (fun t => ctp nr st (gv g) (tv t) * f (gv g) (tv t)) T := sumg_e T (fun t ht => by
          have h1 := hF.2.2 (gv g) (tv t) (hgv g hg).1 (htv t ht).1
          show c g t * f (gv g) (tv t) = ctp nr st (gv g) (tv t) * f (gv g) (tv t)
          by_cases q : 0 < f (gv g) (tv t)
          · rw [(hop g t hg ht).2 ((opx g t hg ht).mp (h1.2 q))]
          · rw [show f (gv g) (tv t) = 0 by omega, Int.mul_zero, Int.mul_zero])
        show sumg (fun t => c g t * f (gv g) (tv t)) T = _
        rw [e2, qT (fun j => ctp nr st (gv g) j * f (gv g) j)]
        exact sumg_e _ (fun j hj => by
          show (if m 48 j < 0 then ctp nr st (gv g) j * f (gv g) j else 0) = ctp nr st (gv g) j * f (gv g) j
          by_cases q : m 48 j < 0
          · rw [if_pos q]
          · rw [if_neg q, z1 (gv g) j (hgv g hg).1 hj q, Int.mul_zero]))
      rw [e1, qG (fun i => sumg (fun j => ctp nr st i j * f i j) (3 * n))]
      exact sumg_e _ (fun i hi => by
        show (if 0 < m 48 i then sumg (fun j => ctp nr st i j * f i j) (3 * n) else 0) = sumg (fun j => ctp nr st i j * f i j) (3 * n)
        by_cases q : 0 < m 48 i
        · rw [if_pos q]
        · rw [if_neg q]
          exact (sumg_0 _ (fun j hj => by
            show ctp nr st i j * f i j = 0
            rw [z2 i j hi hj q, Int.mul_zero])).symm)
  rcases hR with ⟨a, w, f, p, hF, hw, hP, hQ, er⟩ | ⟨⟨U, W, hN⟩, er⟩
  · obtain ⟨hF', hcost⟩ := convF a w f hF
    have hw' : ∀ t : Nat, t < T → (fun t => w (tv t)) t = 0 := fun t ht => hw (tv t) (htv t ht).1
    have hP' : PTd G T op c (fun g => m 48 (gv g : Int)) (fun g => p (gv g)) (fun t => p (tv t)) := ⟨fun g t hg ht ho => by
      have := hP.1 (gv g) (tv t) (hgv g hg).1 (htv t ht).1 ((opx g t hg ht).mpr ho)
      show p (tv t) ≤ p (gv g) + c g t
      rw [(hop g t hg ht).2 ho]
      exact this, fun g hg hs => hP.2 (gv g) (hgv g hg).1 (by rw [sg g hg]; exact hs)⟩
    have hQ' : PTt G T c (fun g => a (gv g)) (fun g t => f (gv g) (tv t)) (fun g => p (gv g)) (fun t => p (tv t)) := ⟨fun g t hg ht hff => by
      have h1 := hQ.1 (gv g) (tv t) (hgv g hg).1 (htv t ht).1 hff
      show p (tv t) = p (gv g) + c g t
      rw [(hop g t hg ht).2 ((hF'.2.2 g t hg ht).2 hff)]
      exact h1, fun g hg ha => hQ.2 (gv g) (hgv g hg).1 ha⟩
    rcases hC with ⟨a2, w2, f2, pG, pT, hF2, hw2, hP2, hQ2, er2⟩ | ⟨⟨U, W, hN⟩, er2⟩
    · have d1 := dual_eq hF2 hw2 hQ2
      have d2 := dual_le hF' hw' hP2
      have d3 := dual_eq hF' hw' hQ'
      have d4 := dual_le hF2 hw2 hP'
      rw [hcost] at d2 d3
      omega
    · exact absurd (nc_no hF' hw' hN) id
  · have hN' : NCt G T op (fun g => m 48 (gv g : Int)) (fun t => -m 48 (tv t : Int)) (fun t => U (tv t)) (fun g => W (gv g)) := by
      refine ⟨fun g t hg ht ho hu => hN.1 (gv g) (tv t) (hgv g hg).1 (htv t ht).1 ((opx g t hg ht).mpr ho) hu, ?_⟩
      have e1 : sumg (fun g => if W (gv g) = true then m 48 (gv g : Int) else 0) G = sumg (fun i => if W i = true then sR (fun i => m 48 i) i else 0) (3 * n) := by
        rw [qG (fun i => if W i = true then m 48 (i : Int) else 0)]
        exact sumg_e _ (fun i hi => by
          show (if 0 < m 48 i then (if W i = true then m 48 (i : Int) else 0) else 0) = (if W i = true then (if 0 < m 48 i then m 48 i else 0) else 0)
          by_cases q : 0 < m 48 i
          · rw [if_pos q, if_pos q]
          · rw [if_neg q, if_neg q]
            by_cases q2 : W i = true
            · rw [if_pos q2]
            · rw [if_neg q2])
      have e2 : sumg (fun t => if U (tv t) = true then -m 48 (tv t : Int) else 0) T = sumg (fun i => if U i = true then dR (fun i => m 48 i) i else 0) (3 * n) := by
        rw [qT (fun i => if U i = true then -m 48 (i : Int) else 0)]
        exact sumg_e _ (fun i hi => by
          show (if m 48 i < 0 then (if U i = true then -m 48 (i : Int) else 0) else 0) = (if U i = true then (if m 48 i < 0 then -m 48 i else 0) else 0)
          by_cases q : m 48 i < 0
          · rw [if_pos q, if_pos q]
          · rw [if_neg q, if_neg q]
            by_cases q2 : U i = true
            · rw [if_pos q2]
            · rw [if_neg q2])
      rw [e1, e2]
      exact hN.2
    rcases hC with ⟨a2, w2, f2, pG, pT, hF2, hw2, hP2, hQ2, er2⟩ | ⟨⟨U, W, hN⟩, er2⟩
    · exact absurd (nc_no hF2 hw2 hN') id
    · rw [er, er2]
theorem op_least : LeastOk := by
  intro m hR
  obtain ⟨n1', n2, n3⟩ := hR.n
  have hl := hR.1.2.2.2
  obtain ⟨n, hn⟩ := Int.eq_ofNat_of_zero_le (show 0 ≤ m 1 0 by omega)
  have hn8 : n ≤ 8 := by omega
  obtain ⟨p1, p2, p3, p4⟩ := hR.2.2.2.2.2.2.2.2.1
  have hov : ∀ i : Nat, i < 3 * n → m 83 i = m 48 i ∧ -50 ≤ m 48 i ∧ m 48 i ≤ 50 := fun i hi => p4 i (by omega) (by omega)
  have hb : ∀ i j : Int, 0 ≤ i → i < n → 0 ≤ j → j < n → i ≠ j → (0 ≤ m 2 (8 * i + j) ∧ m 2 (8 * i + j) ≤ 99) ∧ m 68 (8 * i + j) = m 2 (8 * i + j) := fun i j i1 i2 j1 j2 ij => by
    have := hl i j i1 (by omega) j1 (by omega) ij
    omega
  have bnd : ∀ A : Int → Int, (∀ i : Int, 0 ≤ i → i < n → A (8 * i + i) = 0) → (∀ i j : Int, 0 ≤ i → i < n → 0 ≤ j → j < n → i ≠ j → A (8 * i + j) = m 2 (8 * i + j)) → ∀ B : Int → Int, (∀ i : Int, 0 ≤ i → i < n → B (8 * i + i) = 0) → (∀ i j : Int, 0 ≤ i → i < n → 0 ≤ j → j < n → i ≠ j → B (8 * i + j) = m 2 (8 * i + j)) → ∀ a b : Int, 0 ≤ a → a < n → 0 ≤ b → b < n → mA n n B (8 * a + b) = cA 0 n n A (8 * a + b) ∧ 0 ≤ cA 0 n n A (8 * a + b) ∧ cA 0 n n A (8 * a + b) ≤ 99 := fun A a1 a2 B b1 b2 a b x1 x2 x3 x4 => by
    have J : FJ 0 n 99 A B := by
      refine ⟨b1, fun i j i1 i2 j1 j2 ij => Or.inr ?_⟩
      have w := (hb i j i1 i2 j1 j2 ij).1
      rw [a2 i j i1 i2 j1 j2 ij, b2 i j i1 i2 j1 j2 ij]
      omega
    have K := fj_all hn8 (by omega) J n (by omega)
    have hFB := FB_r n hn8
    by_cases ab : a = b
    · subst ab
      rw [cA_diag hn8 (by omega) (a1 a x1 (by omega)), K.1 a x1 (by omega)]
      exact ⟨rfl, by decide, by decide⟩
    · have p1 := K.2 a b x1 (by omega) x3 (by omega) ab
      have p2 := cA_le (e := 0) (n := n) (A := A) (8 * a + b)
      have w := (hb a b x1 (by omega) x3 (by omega) ab).1
      rw [a2 a b x1 (by omega) x3 (by omega) ab] at p2
      omega
  refine sp_leastC hn8 hn (fun i hi => (hov i hi).2) ⟨p2, p3⟩ (fun i j i1 i2 j1 j2 ij => (hb i j i1 i2 j1 j2 ij).1) (fun A a1 a2 a b x1 x2 x3 x4 => (bnd A a1 a2 A a1 a2 a b x1 x2 x3 x4).2) (fun A m1 r a1 a2 f1 hC => ?_)
  have f1' : ∀ x k : Int, 67 ≤ x → m1 x k = m x k := fun x k hx => f1 x k (by omega)
  refine sp_leastR hn8 (by rw [f1' 67 0 (by decide), n1', hn]) (ov := fun i => m 48 i) (fun i hi => by rw [f1' 83 i (by decide)]; exact hov i hi) (st := m 47 0) (by rw [f1' 67 25 (by decide)]; exact p1) ⟨p2, p3⟩ (fun i j i1 i2 j1 j2 ij => by rw [f1' 68 _ (by decide), (hb i j i1 i2 j1 j2 ij).2]; exact (hb i j i1 i2 j1 j2 ij).1) (nr := cA 0 n n A) (fun B b1 b2 a b x1 x2 x3 x4 => bnd A a1 a2 B b1 (fun i j i1 i2 j1 j2 ij => by rw [b2 i j i1 i2 j1 j2 ij, f1' 68 _ (by decide), (hb i j i1 i2 j1 j2 ij).2]) a b x1 x2 x3 x4) (fun m2 r2 f2 hRr => ⟨res_eq hC hRr, Rel.frame (fun c i q => ?_) hR⟩)
  have q' : ¬ (86 ≤ c) ∧ ¬ ((c = 47 ∧ (i = 2 ∨ i = 3)) ∨ (49 ≤ c ∧ c ≤ 58) ∨ c = 3) := by unfold Scr at q; omega
  rw [f2 c i q'.1, f1 c i q'.2]
