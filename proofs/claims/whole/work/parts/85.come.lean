/-! all come past a closed yard -/
def nxA (n : Int) (ch A : Int → Int) (d y : Int) : Int := if 0 ≤ y ∧ y < n ∧ 0 ≤ ch (8 * y + d) then A (ch (8 * y + d)) else -1
def ok1 (n c : Int) (ch A ld : Int → Int) (a d : Nat) : Prop := ¬ (a : Int) = c → ¬ (d : Int) = c → 0 < ld (8 * (a : Int) + d) → CP (nxA n ch A d) a d c
def ACm (n : Nat) (c : Int) (ch A ld : Int → Int) : Prop := ∀ a d : Nat, a < n → d < n → ok1 n c ch A ld a d
/-- which block is chosen, and where the blocks lead: their bounds -/
def ChR (n : Nat) (K : Int) (ch A : Int → Int) : Prop := (∀ y d : Int, 0 ≤ y → y < n → 0 ≤ d → d < n → ch (8 * y + d) = -1 ∨ (0 ≤ ch (8 * y + d) ∧ ch (8 * y + d) < K)) ∧ ∀ b : Int, 0 ≤ b → b < K → 0 ≤ A b ∧ A b < n
theorem nxA_x {n : Nat} {K : Int} {ch A : Int → Int} (h : ChR n K ch A) {d : Int} (hd : 0 ≤ d ∧ d < n) (y : Int) (y0 : 0 ≤ y) (y1 : y < n) : (ch (8 * y + d) = -1 ∧ nxA n ch A d y = -1) ∨ (0 ≤ ch (8 * y + d) ∧ ch (8 * y + d) < K ∧ nxA n ch A d y = A (ch (8 * y + d)) ∧ 0 ≤ nxA n ch A d y ∧ nxA n ch A d y < n) := by
  unfold nxA
  rcases h.1 y d y0 y1 hd.1 hd.2 with q | q
  · rw [if_neg (by omega)]; exact Or.inl ⟨q, rfl⟩
  · rw [if_pos ⟨y0, y1, q.1⟩]; exact Or.inr ⟨q.1, q.2, rfl, h.2 _ q.1 q.2⟩
theorem nxA_c {n : Nat} {K : Int} {ch A B : Int → Int} (h : ∀ y d : Int, 0 ≤ y → y < n → 0 ≤ d → d < n → ch (8 * y + d) = -1 ∨ (0 ≤ ch (8 * y + d) ∧ ch (8 * y + d) < K)) (hAB : ∀ b : Int, 0 ≤ b → b < K → A b = B b) {d : Int} (hd : 0 ≤ d ∧ d < n) : nxA n ch A d = nxA n ch B d := by
  funext y
  unfold nxA
  by_cases q : 0 ≤ y ∧ y < (n : Int) ∧ 0 ≤ ch (8 * y + d)
  · rw [if_pos q, if_pos q]
    rcases h y d q.1 q.2.1 hd.1 hd.2 with z | z
    · omega
    · exact hAB _ z.1 z.2
  · rw [if_neg q, if_neg q]
theorem ACm_c {n : Nat} {K c : Int} {ch A B ld : Int → Int} (h : ∀ y d : Int, 0 ≤ y → y < n → 0 ≤ d → d < n → ch (8 * y + d) = -1 ∨ (0 ≤ ch (8 * y + d) ∧ ch (8 * y + d) < K)) (hAB : ∀ b : Int, 0 ≤ b → b < K → A b = B b) (g : ACm n c ch A ld) : ACm n c ch B ld := by
  intro a d ha hd
  have := g a d ha hd
  unfold ok1 at this ⊢
  rw [nxA_c h hAB (by omega)] at this
  exact this
theorem sp_incl {L : Nat} (hL : L ≤ 7) {c : Int} {p : Nat → Int} {m : Mem} {post : Int → Mem → Prop} (h67 : m 6 7 = L + 1) (h12 : ∀ j : Nat, j ≤ L → m 12 j = p j) (h1 : (∃ j : Nat, j ≤ L ∧ p j = c) → post 1 m) (h0 : (∀ j : Nat, j ≤ L → ¬ p j = c) → post 0 m) : wp_X0_stopsInclude c m post := by
  have key : ∀ r j : Nat, j + r = L + 1 → (∀ i : Nat, i < j → ¬ p i = c) → wp_X0_stopsInclude_2 post (r + 1) c j m := by
    intro r
    induction r with
    | zero =>
      intro j hj hn
      unfold wp_X0_stopsInclude_2
      rw [h67]
      exact bt (by omega) (h0 (fun i hi => hn i (by omega)))
    | succ r ih =>
      intro j hj hn
      unfold wp_X0_stopsInclude_2
      rw [h67, h12 j (by omega), i1 j (by omega)]
      refine bf (by omega) ⟨by omega, fun q => ih (j + 1) (by omega) (fun i hi => ?_), fun q => h1 ⟨j, by omega, q⟩⟩
      by_cases e : i = j
      · rw [e]; exact q
      · exact hn i (by omega)
  exact ⟨L + 2, key (L + 1) 0 (by omega) (fun i hi => by omega)⟩
theorem sp_past {n : Nat} {K : Int} (hn : n ≤ 8) (hK : K ≤ 20) {a d c : Int} (ha : 0 ≤ a ∧ a < n) (hd : 0 ≤ d ∧ d < n) {m : Mem} {post : Int → Mem → Prop} (hC : ChR n K (m 11) (m 65)) (h1 : CP (nxA n (m 11) (m 65) d) a d c → ∀ m' : Mem, (∀ x i : Int, ¬ (x = 12 ∨ (x = 6 ∧ i = 7)) → m' x i = m x i) → post 1 m') (h0 : ¬ CP (nxA n (m 11) (m 65) d) a d c → ∀ m' : Mem, (∀ x i : Int, ¬ (x = 12 ∨ (x = 6 ∧ i = 7)) → m' x i = m x i) → post 0 m') : wp_X1_comesPast a d c m post := by
  unfold wp_X1_comesPast
  refine sp_follow (nx := nxA n (m 11) (m 65) d) ha hd (by omega) ⟨by decide, by decide, rfl⟩ (fun y y0 y1 => ?_) (fun L m' hL hc e67 e12 f => z1 ?_) (fun L m' hf f => z0 (h0 ?_ m' f))
  · rcases nxA_x hC hd y y0 y1 with q | q
    · exact Or.inl q
    · exact Or.inr ⟨q.1, by omega, q.2.2⟩
  · refine sp_incl hL e67 e12 (fun q => n1 ?_) (fun q => n0 ?_)
    · refine h0 (fun z => ?_) m' f
      obtain ⟨L', c1, c2⟩ := z
      obtain ⟨j, j1, j2⟩ := q
      rw [come_u hc c1] at j1
      exact c2 j j1 j2
    · exact h1 ⟨L, hc, q⟩ m' f
  · rintro ⟨L', c1, c2⟩
    exact come_fail c1 hf
theorem sp_acC {n : Nat} {K : Int} (hn : n ≤ 8) (hK : K ≤ 20) {c : Int} {m : Mem} {post : Int → Mem → Prop} (hC : ChR n K (m 11) (m 65)) (h1 : ACm n c (m 11) (m 65) (m 44) → ∀ m' : Mem, (∀ x i : Int, ¬ (x = 12 ∨ (x = 6 ∧ i = 7)) → m' x i = m x i) → post 1 m') (h0 : ¬ ACm n c (m 11) (m 65) (m 44) → ∀ m' : Mem, (∀ x i : Int, ¬ (x = 12 ∨ (x = 6 ∧ i = 7)) → m' x i = m x i) → post 0 m') : wp_X1_allCome c n 44 m post := by
  have inner : ∀ (K3 : Int → Int → Int → Int → Mem → Prop) (a : Nat), a < n → (∀ m' : Mem, (∀ x i : Int, ¬ (x = 12 ∨ (x = 6 ∧ i = 7)) → m' x i = m x i) → (∀ d : Nat, d < n → ok1 n c (m 11) (m 65) (m 44) a d) → K3 c n 44 ((a + 1 : Nat) : Int) m') → ∀ (r d : Nat) (m' : Mem), d + r = n → (∀ x i : Int, ¬ (x = 12 ∨ (x = 6 ∧ i = 7)) → m' x i = m x i) → (∀ e : Nat, e < d → ok1 n c (m 11) (m 65) (m 44) a e) → wp_X1_allCome_12 K3 post (r + 1) c n 44 a d m' := by
    intro K3 a ha hK3 r
    induction r with
    | zero =>
      intro d m' hd f g
      unfold wp_X1_allCome_12
      rw [i1 a (by omega)]
      exact bt (by omega) (hK3 m' f (fun e he => g e (by omega)))
    | succ r ih =>
      intro d m' hd f g
      have r11 : m' 11 = m 11 := funext fun i => f 11 i (by omega)
      have r65 : m' 65 = m 65 := funext fun i => f 65 i (by omega)
      have r44 : m' 44 = m 44 := funext fun i => f 44 i (by omega)
      have nx : ∀ m2 : Mem, (∀ x i : Int, ¬ (x = 12 ∨ (x = 6 ∧ i = 7)) → m2 x i = m x i) → ok1 n c (m 11) (m 65) (m 44) a d → wp_X1_allCome_12 K3 post (r + 1) c n 44 a ((d + 1 : Nat) : Int) m2 := fun m2 f2 o => ih (d + 1) m2 (by omega) f2 (fun e he => by
        by_cases q : e = d
        · rw [q]; exact o
        · exact g e (by omega))
      unfold wp_X1_allCome_12 wp_X1_allCome_48 wp_X1_allCome_49
      rw [i1 d (by omega), ix8 (by omega) (by omega) (by omega) (by omega), r44]
      refine bf (by omega) ⟨fun q => z0 (nx m' f (fun z => absurd q z)), fun q => ⟨fun q2 => z0 (nx m' f (fun _ z => absurd q2 z)), fun q2 => ⟨⟨by omega, by show 8 * (a : Int) + d < 64; omega⟩, fun q3 => z0 (nx m' f (fun _ _ z => by omega)), fun q3 => z1 ?_⟩⟩⟩
      refine sp_past hn hK (by omega) (by omega) (by rw [r11, r65]; exact hC) (fun hp m2 f2 => n1 ?_) (fun hp m2 f2 => n0 ?_)
      · rw [r11, r65] at hp
        exact nx m2 (fun x i hx => by rw [f2 x i hx, f x i hx]) (fun _ _ _ => hp)
      · rw [r11, r65] at hp
        exact h0 (fun z => hp (z a d ha (by omega) q q2 (by omega))) m2 (fun x i hx => by rw [f2 x i hx, f x i hx])
  have outer : ∀ (r a : Nat) (m' : Mem), a + r = n → (∀ x i : Int, ¬ (x = 12 ∨ (x = 6 ∧ i = 7)) → m' x i = m x i) → (∀ b d : Nat, b < a → d < n → ok1 n c (m 11) (m 65) (m 44) b d) → wp_X1_allCome_3 post (r + 1) c n 44 a m' := by
    intro r
    induction r with
    | zero =>
      intro a m' ha f g
      unfold wp_X1_allCome_3
      exact bt (by omega) (h1 (fun b d hb hd => g b d (by omega) hd) m' f)
    | succ r ih =>
      intro a m' ha f g
      unfold wp_X1_allCome_3
      refine bf (by omega) ⟨n + 1, inner _ a (by omega) (fun m2 f2 g2 => ih (a + 1) m2 (by omega) f2 (fun b d hb hd => ?_)) n 0 m' (by omega) f (fun e he => by omega)⟩
      by_cases q : b = a
      · rw [q]; exact g2 d hd
      · exact g b d (by omega) hd
  exact ⟨n + 1, outer n 0 m (by omega) (fun _ _ _ => rfl) (fun b d hb => by omega)⟩
theorem sp_comes {n : Nat} {K : Int} (hn : n ≤ 8) (hK : K ≤ 20) {a d c : Int} (ha : 0 ≤ a ∧ a < n) (hd : 0 ≤ d ∧ d < n) (hac : ¬ a = c) {ch A : Int → Int} {m : Mem} {post : Int → Mem → Prop} (hC : ChR n K ch A) (e0 : m 67 0 = n) (h103 : ∀ y : Int, 0 ≤ y → y < n → m 103 (8 * y + d) = ch (8 * y + d)) (h88 : ∀ b : Int, 0 ≤ b → b < K → m 88 b = A b) (h1 : CP (nxA n ch A d) a d c → post 1 m) (h0 : ¬ CP (nxA n ch A d) a d c → post 0 m) : wp_X11_comes a d c m post := by
  have hx := nxA_x hC hd
  have hx' : ∀ y : Int, 0 ≤ y → y < n → nxA n ch A d y = -1 ∨ (0 ≤ nxA n ch A d y ∧ nxA n ch A d y < n) := fun y y0 y1 => (hx y y0 y1).elim (fun z => Or.inl z.2) (fun z => Or.inr z.2.2.2)
  generalize hN : nxA n ch A d = nx at *
  have fin1 : ∀ k : Nat, (∀ i : Nat, i < k → ¬ (wst nx a i).1 = d ∧ ¬ nx (wst nx a i).1 = -1) → (∀ i : Nat, i ≤ k → ¬ (wst nx a i).1 = c) → (wst nx a k).1 = d → post 1 m := fun k g1 g2 g3 => h1 ⟨k, come_0 ha (by omega) hx' g1 g3, g2⟩
  have key : ∀ r k : Nat, k + r = n → (0 ≤ (wst nx a k).1 ∧ (wst nx a k).1 < n) → (∀ i : Nat, i < k → ¬ (wst nx a i).1 = d ∧ ¬ nx (wst nx a i).1 = -1) → (∀ i : Nat, i ≤ k → ¬ (wst nx a i).1 = c) → wp_X11_comes_6 (fun v2_3 v4_3 m_3 => wp_X11_comes_69 v2_3 v4_3 m_3 post) post (r + 1) d c (wst nx a k).1 k m := by
    intro r
    induction r with
    | zero =>
      intro k hk hb g1 g2
      unfold wp_X11_comes_6 wp_X11_comes_69
      rw [e0]
      refine bt (by omega) ⟨fun q => h0 ?_, fun q => fin1 k g1 g2 q⟩
      rintro ⟨L, c1, c2⟩
      have hL := come_n ha (by omega) hx' c1.1
      exact (g1 L (by omega)).1 c1.2
    | succ r ih =>
      intro k hk hb g1 g2
      unfold wp_X11_comes_6 wp_X11_comes_69
      rw [e0, i1 k (by omega), ix8' hb.1 (by omega) hd.1 (by omega), h103 _ hb.1 hb.2]
      refine bf (by omega) ⟨fun q => nf q (fin1 k g1 g2 q), fun q => ⟨by omega, eqm ?_⟩⟩
      rcases hx _ hb.1 hb.2 with w | w
      · refine bt w.1 (h0 ?_)
        rintro ⟨L, c1, c2⟩
        rcases Nat.lt_trichotomy L k with z | z | z
        · exact (g1 L z).1 c1.2
        · subst z; exact q c1.2
        · exact (c1.1 k z).2.1 w.2
      · rw [h88 _ w.1 w.2.1, ← w.2.2.1]
        refine bf (by omega) ⟨by omega, fun q2 => ⟨by omega, eqm ?_⟩, fun q2 => h0 ?_⟩
        · refine ih (k + 1) (by omega) w.2.2.2 (fun i hi => ?_) (fun i hi => ?_)
          · by_cases e : i = k
            · rw [e]; exact ⟨q, by omega⟩
            · exact g1 i (by omega)
          · by_cases e : i = k + 1
            · rw [e]; exact q2
            · exact g2 i (by omega)
        · rintro ⟨L, c1, c2⟩
          rcases Nat.lt_trichotomy L k with z | z | z
          · exact (g1 L z).1 c1.2
          · subst z; exact q c1.2
          · exact c2 (k + 1) (by omega) q2
  exact ⟨n + 1, key n 0 (by omega) ha (fun i hi => by omega) (fun i hi => by rw [show i = 0 by omega]; exact hac)⟩
theorem sp_acM {n : Nat} {K : Int} (hn : n ≤ 8) (hK : K ≤ 20) {c : Int} {ch A ld : Int → Int} {m : Mem} {post : Int → Mem → Prop} (hC : ChR n K ch A) (e0 : m 67 0 = n) (h103 : ∀ y d : Int, 0 ≤ y → y < n → 0 ≤ d → d < n → m 103 (8 * y + d) = ch (8 * y + d)) (h88 : ∀ b : Int, 0 ≤ b → b < K → m 88 b = A b) (h81 : ∀ y d : Int, 0 ≤ y → y < n → 0 ≤ d → d < n → m 81 (8 * y + d) = ld (8 * y + d)) (h1 : ACm n c ch A ld → post 1 m) (h0 : ¬ ACm n c ch A ld → post 0 m) : wp_X11_allCome c m post := by
  have inner : ∀ (K2 : Int → Int → Mem → Prop) (a : Nat), a < n → ((∀ d : Nat, d < n → ok1 n c ch A ld a d) → K2 c ((a + 1 : Nat) : Int) m) → ∀ r d : Nat, d + r = n → (∀ e : Nat, e < d → ok1 n c ch A ld a e) → wp_X11_allCome_12 K2 post (r + 1) c a d m := by
    intro K2 a ha hK2 r
    induction r with
    | zero =>
      intro d hd g
      unfold wp_X11_allCome_12
      rw [e0, i1 a (by omega)]
      exact bt (by omega) (hK2 (fun e he => g e (by omega)))
    | succ r ih =>
      intro d hd g
      have nx : ok1 n c ch A ld a d → wp_X11_allCome_12 K2 post (r + 1) c a ((d + 1 : Nat) : Int) m := fun o => ih (d + 1) (by omega) (fun e he => by
        by_cases q : e = d
        · rw [q]; exact o
        · exact g e (by omega))
      unfold wp_X11_allCome_12
      rw [e0, i1 d (by omega), ix8' (by omega) (by omega) (by omega) (by omega), h81 _ _ (by omega) (by omega) (by omega) (by omega)]
      refine bf (by omega) ⟨fun q => nx (fun z => absurd q z), fun q => ⟨fun q2 => nx (fun _ z => absurd q2 z), fun q2 => ⟨by omega, fun q3 => nx (fun _ _ z => by omega), fun q3 => ?_⟩⟩⟩
      exact sp_comes hn hK (by omega) (by omega) q hC e0 (fun y y0 y1 => h103 y d y0 y1 (by omega) (by omega)) h88 (fun hp => n1 (nx (fun _ _ _ => hp))) (fun hp => n0 (h0 (fun z => hp (z a d ha (by omega) q q2 (by omega)))))
  have outer : ∀ r a : Nat, a + r = n → (∀ b d : Nat, b < a → d < n → ok1 n c ch A ld b d) → wp_X11_allCome_2 post (r + 1) c a m := by
    intro r
    induction r with
    | zero =>
      intro a ha g
      unfold wp_X11_allCome_2
      rw [e0]
      exact bt (by omega) (h1 (fun b d hb hd => g b d (by omega) hd))
    | succ r ih =>
      intro a ha g
      unfold wp_X11_allCome_2
      rw [e0]
      refine bf (by omega) ⟨n + 1, inner _ a (by omega) (fun g2 => ih (a + 1) (by omega) (fun b d hb hd => ?_)) n 0 (by omega) (fun e he => by omega)⟩
      by_cases q : b = a
      · rw [q]; exact g2 d hd
      · exact g b d (by omega) hd
  exact ⟨n + 1, outer n 0 (by omega) (fun b d hb => by omega)⟩
