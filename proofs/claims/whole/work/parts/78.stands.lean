/-! a row of wagons: stands -/
/-- the row behind s steps over t tracks -/
def itS (A : Int → Int) (k t : Nat) : Nat → Nat → Int
  | 0 => fun i => i
  | s + 1 => roll1 (fun x => A (itS A k t s x) / ((t : Int) ^ s) % t) (itS A k t s) k t
theorem itS_r {A : Int → Int} {k t : Nat} (hA : ∀ x : Int, 0 ≤ x → x < k → 0 ≤ A x ∧ A x ≤ 15) (ht : 2 ≤ t ∧ t ≤ 8) : ∀ s : Nat, s ≤ 4 → ∀ i : Nat, i < k → 0 ≤ itS A k t s i ∧ itS A k t s i < k
  | 0, _, i, hi => by show 0 ≤ (i : Int) ∧ (i : Int) < k; omega
  | s + 1, hs, i, hi => by
    have ih := itS_r hA ht s (by omega)
    have hp := pw_r (t := (t : Int)) (by omega) (show s ≤ 4 by omega)
    refine roll1_r (fun x hx => ?_) ih i hi
    have h1 := ih x hx
    have h2 := hA _ h1.1 h1.2
    exact (dg_r h2.1 hp.1 (by omega) h2.2).2
theorem rlI_cg {e e' S S' : Nat → Int} {k : Nat} (he : ∀ x : Nat, x < k → e x = e' x) (hS : ∀ x : Nat, x < k → S x = S' x) {T : Int} {s : Int × (Int → Int)} : ∀ i : Nat, i ≤ k → rlI e S T i s = rlI e' S' T i s
  | 0, _ => rfl
  | i + 1, hi => by
    show rl1 e S T i (rlI e S T i s) = rl1 e' S' T i (rlI e' S' T i s)
    unfold rl1
    rw [rlI_cg he hS i (by omega), he i (by omega), hS i (by omega)]
theorem rlT_cg {e e' S S' : Nat → Int} {k : Nat} (he : ∀ x : Nat, x < k → e x = e' x) (hS : ∀ x : Nat, x < k → S x = S' x) {s : Int × (Int → Int)} : ∀ T : Nat, rlT e S k T s = rlT e' S' k T s
  | 0 => rfl
  | T + 1 => by
    show rlI e S T k (rlT e S k T s) = rlI e' S' T k (rlT e' S' k T s)
    rw [rlT_cg he hS T, rlI_cg he hS k (Nat.le_refl _)]
theorem itS_c {A B : Int → Int} {k t : Nat} (h : ∀ x : Int, 0 ≤ x → x < k → A x = B x) (hA : ∀ x : Int, 0 ≤ x → x < k → 0 ≤ A x ∧ A x ≤ 15) (ht : 2 ≤ t ∧ t ≤ 8) : ∀ s : Nat, s ≤ 4 → itS A k t s = itS B k t s
  | 0, _ => rfl
  | s + 1, hs => by
    have ih := itS_c h hA ht s (by omega)
    have hr := itS_r hA ht s (by omega)
    show roll1 (fun x => A (itS A k t s x) / ((t : Int) ^ s) % t) (itS A k t s) k t = roll1 (fun x => B (itS B k t s x) / ((t : Int) ^ s) % t) (itS B k t s) k t
    rw [← ih]
    funext i
    unfold roll1
    rw [rlT_cg (fun x hx => ?_) (fun x _ => rfl) t]
    have := hr x hx
    show A (itS A k t s x) / ((t : Int) ^ s) % t = B (itS A k t s x) / ((t : Int) ^ s) % t
    rw [h _ this.1 this.2]
theorem srt_ex1 {i : Nat} (hi : i < 16) {mk W : Int → Int} (hW : Srt i mk W) : ∀ j : Nat, j ≤ i → (∀ l : Nat, j ≤ l → l < i → mk i < mk (W l)) → ∃ A : Int → Int, Srt (i + 1) mk A := by
  have fin : ∀ j : Nat, j ≤ i → (∀ l : Nat, j ≤ l → l < i → mk i < mk (W l)) → (0 < j → mk (W ((j - 1 : Nat) : Int)) ≤ mk i) → ∃ A : Int → Int, Srt (i + 1) mk A := by
    intro j hj h1 h2
    refine ⟨fun x => if x < j then W x else if x = j then i else W (x - 1), srt_ins hi hj hW ⟨fun l hl => ?_, ?_, fun l l1 l2 => ?_⟩ h1 h2⟩
    · show (if (l : Int) < j then W l else if (l : Int) = j then (i : Int) else W ((l : Int) - 1)) = W l
      rw [if_pos (by omega)]
    · show (if (j : Int) < j then W j else if (j : Int) = j then (i : Int) else W ((j : Int) - 1)) = i
      rw [if_neg (by omega), if_pos rfl]
    · show (if (((l + 1 : Nat) : Int)) < j then W ((l + 1 : Nat) : Int) else if (((l + 1 : Nat) : Int)) = j then (i : Int) else W ((((l + 1 : Nat) : Int)) - 1)) = W l
      rw [if_neg (by omega), if_neg (by omega), show ((((l + 1 : Nat) : Int)) - 1) = (l : Int) by omega]
  intro j
  induction j with
  | zero => intro hj h1; exact fin 0 hj h1 (fun z => by omega)
  | succ j ih =>
    intro hj h1
    by_cases q : mk (W (j : Int)) ≤ mk i
    · exact fin (j + 1) hj h1 (fun _ => q)
    · refine ih (by omega) (fun l l1 l2 => ?_)
      by_cases e : l = j
      · rw [e]; omega
      · exact h1 l (by omega) l2
theorem srt_ex (mk : Int → Int) : ∀ k : Nat, k ≤ 16 → ∃ W : Int → Int, Srt k mk W
  | 0, _ => ⟨fun _ => 0, fun l hl => by omega, fun l l' _ hl => by omega, fun x hx => by omega⟩
  | k + 1, hk => by
    obtain ⟨W, hW⟩ := srt_ex mk k (by omega)
    exact srt_ex1 (by omega) hW k (Nat.le_refl _) (fun l _ _ => by omega)
theorem sp_sortC {k t K : Nat} (hk : k ≤ 16) (ht : 2 ≤ t ∧ t ≤ 8) (hK : K ≤ 4) {m : Mem} {A : Int → Int} {post : Mem → Prop} (h0 : m 37 0 = k) (hA : ∀ x : Int, 0 ≤ x → x < k → m 38 x = A x ∧ 0 ≤ A x ∧ A x ≤ 15) (H : ∀ m' : Mem, (∀ c i : Int, ¬ (c = 39 ∨ c = 42) → m' c i = m c i) → (∀ i : Nat, i < k → m' 39 i = itS A k t K i) → post m') : wp_X7_sortBy t K m post := by
  have main : ∀ (r s : Nat) (m' : Mem), s + r = K → (∀ c i : Int, ¬ (c = 39 ∨ c = 42) → m' c i = m c i) → (∀ i : Nat, i < k → m' 39 i = itS A k t s i) → wp_X7_sortBy_28 post (r + 1) t K ((t : Int) ^ s) s m' := by
    intro r
    induction r with
    | zero =>
      intro s m' hs f g
      unfold wp_X7_sortBy_28
      refine bt (by omega) (H m' f ?_)
      rw [show K = s by omega]; exact g
    | succ r ih =>
      intro s m' hs f g
      have hp := pw_r (t := (t : Int)) (by omega) (show s + 1 ≤ 4 by omega)
      have hp0 := pw_r (t := (t : Int)) (by omega) (show s ≤ 4 by omega)
      have hr := itS_r (k := k) (t := t) (fun x x0 x1 => (hA x x0 x1).2) ht s (by omega)
      unfold wp_X7_sortBy_28
      refine bf (by omega) (sp_rollC hk ht hp0.1 (A := A) (S := itS A k t s) (by rw [f 37 0 (by omega)]; exact h0) (fun i hi => ⟨g i hi, hr i hi⟩) (fun x x0 x1 => ?_) (fun m2 f2 g2 => eqm ?_))
      · rw [f 38 x (by omega)]; exact hA x x0 x1
      · rw [show (t : Int) ^ s * t = (t : Int) ^ (s + 1) from (Int.pow_succ (t : Int) s).symm, w32_i (x := (t : Int) ^ (s + 1)) (by omega), i1 s (by omega)]
        exact ih (s + 1) m2 (by omega) (fun c i hc => by rw [f2 c i hc, f c i hc]) g2
  have init : ∀ (r i : Nat) (B : Int → Int), i + r = k → (∀ j : Nat, j < i → B j = j) → wp_X7_sortBy_2 (fun v1_1 v2_1 v3_1 v4_1 m_1 => ∃ n_3 : Nat, wp_X7_sortBy_28 post n_3 v1_1 v2_1 v3_1 v4_1 m_1) post (r + 1) t K i (mrow m 39 B) := by
    intro r
    induction r with
    | zero =>
      intro i B hi hB
      unfold wp_X7_sortBy_2
      rw [mrow_ne (by decide), h0]
      refine bt (by omega) ⟨K + 1, ?_⟩
      have := main K 0 (mrow m 39 B) (by omega) (fun c i hc => by rw [mrow_ne (by omega)]) (fun j hj => by rw [mrow_s, hB j (by omega)]; rfl)
      rw [Int.pow_zero] at this
      exact this
    | succ r ih =>
      intro i B hi hB
      unfold wp_X7_sortBy_2
      rw [mrow_ne (by decide), h0, i1 i (by omega)]
      refine bf (by omega) ⟨by omega, eqm ?_⟩
      rw [mrow_set]
      refine ih (i + 1) _ (by omega) (fun j hj => ?_)
      by_cases e : j = i
      · rw [e, rset_eq rfl]
      · rw [rset_ne (by omega)]; exact hB j (by omega)
  have := init k 0 (m 39) (by omega) (fun j hj => by omega)
  rw [mrow_self] at this
  exact ⟨k + 1, this⟩
theorem sp_rollM {k t : Nat} {u v2 v3 v5 : Int} (hk : k ≤ 16) (ht : 2 ≤ t ∧ t ≤ 8) (hu : 1 ≤ u) {m : Mem} {A : Int → Int} {S : Nat → Int} {K160 : Int → Int → Int → Int → Int → Int → Mem → Prop} {post : Int → Mem → Prop} (h0 : m 67 20 = k) (hS : ∀ i : Nat, i < k → m 96 i = S i ∧ 0 ≤ S i ∧ S i < k) (hA : ∀ x : Int, 0 ≤ x → x < k → m 95 x = A x ∧ 0 ≤ A x ∧ A x ≤ 15) (H : ∀ R : Int → Int, (∀ i : Nat, i < k → R i = roll1 (fun x => A (S x) / u % t) S k t i) → K160 t v2 v3 u v5 0 (mrow m 97 R)) : ∃ n : Nat, wp_X11_stands_88 K160 post n t v2 v3 u v5 0 0 m := by
  have hd : ∀ i : Nat, i < k → Int.tmod (w32 (Int.tdiv (m 95 (S i)) u)) t = A (S i) / u % t ∧ 0 ≤ A (S i) / u % t ∧ A (S i) / u % t < t := fun i hi => by
    have h1 := hS i hi
    have h2 := hA (S i) h1.2.1 h1.2.2
    rw [h2.1]
    exact dg_r h2.2.1 hu (by omega) h2.2.2
  have he : ∀ x : Nat, x < k → 0 ≤ (fun x : Nat => A (S x) / u % t) x ∧ (fun x : Nat => A (S x) / u % t) x < t := fun x hx => (hd x hx).2
  have hd' : ∀ i : Nat, i < k → Int.tmod (w32 (Int.tdiv (m 95 (S i)) u)) t = (fun x : Nat => A (S x) / u % t) i := fun i hi => (hd i hi).1
  generalize (fun x : Nat => A (S x) / u % t) = e at H he hd'
  have inner : ∀ (K : Int → Int → Int → Int → Int → Int → Int → Mem → Prop) (T : Nat) (s : Int × (Int → Int)), T < t → s.1 = cT e k T 0 → K t v2 v3 u v5 (rlI e S T k s).1 ((T + 1 : Nat) : Int) (mrow m 97 (rlI e S T k s).2) → ∀ r i : Nat, i + r = k → wp_X11_stands_97 K post (r + 1) t v2 v3 u v5 (rlI e S T i s).1 T i (mrow m 97 (rlI e S T i s).2) := by
    intro K T s hT hs hK r
    induction r with
    | zero =>
      intro i hi
      unfold wp_X11_stands_97
      rw [mrow_ne (by decide), h0, i1 T (by omega)]
      refine bt (by omega) ?_
      rw [show i = k by omega]
      exact hK
    | succ r ih =>
      intro i hi
      have hc := rlI_c (S := S) hs i (by omega)
      have hSi := hS i (by omega)
      have nx := ih (i + 1) (by omega)
      have ex : rlI e S T (i + 1) s = rl1 e S T i (rlI e S T i s) := rfl
      rw [ex] at nx
      generalize rlI e S T i s = z at hc nx ⊢
      unfold rl1 at nx
      unfold wp_X11_stands_97
      rw [mrow_ne (by decide), h0, mrow_ne (by decide), mrow_ne (by decide), hSi.1, hd' i (by omega), i1 i (by omega)]
      refine bf (by omega) ⟨by omega, by omega, by omega, by omega, fun q => ?_, fun q => ?_⟩
      · rw [if_neg q] at nx; exact nx
      · rw [if_pos q] at nx
        have g := cT_s (k := k) (show i < k by omega) q
        have g2 := cB_le (fun x => decide (e x < T ∨ (e x = T ∧ x < i + 1))) k
        unfold cT at g hc
        refine ⟨by omega, by omega, eqm ?_⟩
        rw [mrow_set, show w32 (z.1 + 1) = z.1 + 1 from w32_i (by omega)]
        exact nx
  have outer : ∀ (R : Int → Int) (r T : Nat), T + r = t → wp_X11_stands_88 K160 post (r + 1) t v2 v3 u v5 (rlT e S k T (0, R)).1 T (mrow m 97 (rlT e S k T (0, R)).2) := by
    intro R r
    induction r with
    | zero =>
      intro T hT
      rw [show T = t by omega]
      unfold wp_X11_stands_88
      exact bt (by omega) (H _ (fun i hi => roll1_e he R i hi))
    | succ r ih =>
      intro T hT
      unfold wp_X11_stands_88
      refine bf (by omega) ⟨k + 1, ?_⟩
      exact inner _ T _ (by omega) (rlT_c (S := S) (fun x hx => (he x hx).1) T) (ih (T + 1) (by omega)) k 0 (by omega)
  have := outer (m 97) t 0 (by omega)
  have e0 : rlT e S k 0 (0, m 97) = (0, m 97) := rfl
  rw [e0] at this
  have e1 : mrow m 97 ((0 : Int), m 97).2 = m := mrow_self m 97
  rw [e1] at this
  exact ⟨t + 1, this⟩
theorem sp_cpyM {k : Nat} (hk : k ≤ 16) {t v2 v3 v4 v5 : Int} {m : Mem} {K76 : Int → Int → Int → Int → Int → Mem → Prop} {post : Int → Mem → Prop} (h0 : m 67 20 = k) (H : ∀ B : Int → Int, (∀ i : Nat, i < k → B i = m 97 i) → K76 t v2 v3 (w32 (v4 * t)) (w32 (v5 + 1)) (mrow m 96 B)) : ∃ n : Nat, wp_X11_stands_160 K76 post n t v2 v3 v4 v5 0 m := by
  have key : ∀ (r i : Nat) (B : Int → Int), i + r = k → (∀ j : Nat, j < i → B j = m 97 j) → wp_X11_stands_160 K76 post (r + 1) t v2 v3 v4 v5 i (mrow m 96 B) := by
    intro r
    induction r with
    | zero =>
      intro i B hi hB
      unfold wp_X11_stands_160
      rw [mrow_ne (by decide), h0]
      exact bt (by omega) (eqm (H B (fun j hj => hB j (by omega))))
    | succ r ih =>
      intro i B hi hB
      unfold wp_X11_stands_160
      rw [mrow_ne (by decide), h0, mrow_ne (by decide), i1 i (by omega)]
      refine bf (by omega) ⟨by omega, by omega, eqm ?_⟩
      rw [mrow_set]
      refine ih (i + 1) _ (by omega) (fun j hj => ?_)
      by_cases e : j = i
      · rw [e, rset_eq rfl]
      · rw [rset_ne (by omega)]; exact hB j (by omega)
  have := key k 0 (m 96) (by omega) (fun j hj => by omega)
  rw [mrow_self] at this
  exact ⟨k + 1, this⟩
theorem sp_sortM {k t K : Nat} (hk : k ≤ 16) (ht : 2 ≤ t ∧ t ≤ 8) (hK : K ≤ 4) {v3 : Int} (h3 : 0 ≤ v3 ∧ v3 < 16) {m : Mem} {A : Int → Int} {post : Int → Mem → Prop} (h0 : m 67 20 = k) (hA : ∀ x : Int, 0 ≤ x → x < k → m 95 x = A x ∧ 0 ≤ A x ∧ A x ≤ 15) (H : ∀ m' : Mem, (∀ c i : Int, ¬ (c = 96 ∨ c = 97) → m' c i = m c i) → (∀ i : Nat, i < k → m' 96 i = itS A k t K i) → post (m' 96 v3) m') : ∃ n : Nat, wp_X11_stands_46 (fun v1_1 v2_1 v3_1 v4_1 v5_1 m_1 => ∃ n_9 : Nat, wp_X11_stands_76 post n_9 v1_1 v2_1 v3_1 v4_1 v5_1 m_1) post n t K v3 0 m := by
  have main : ∀ (r s : Nat) (m' : Mem), s + r = K → (∀ c i : Int, ¬ (c = 96 ∨ c = 97) → m' c i = m c i) → (∀ i : Nat, i < k → m' 96 i = itS A k t s i) → wp_X11_stands_76 post (r + 1) t K v3 ((t : Int) ^ s) s m' := by
    intro r
    induction r with
    | zero =>
      intro s m' hs f g
      unfold wp_X11_stands_76
      refine bt (by omega) ⟨h3, H m' f ?_⟩
      rw [show K = s by omega]; exact g
    | succ r ih =>
      intro s m' hs f g
      have hp := pw_r (t := (t : Int)) (by omega) (show s + 1 ≤ 4 by omega)
      have hp0 := pw_r (t := (t : Int)) (by omega) (show s ≤ 4 by omega)
      have hr := itS_r (k := k) (t := t) (fun x x0 x1 => (hA x x0 x1).2) ht s (by omega)
      have hn : m' 67 20 = k := by rw [f 67 20 (by omega)]; exact h0
      unfold wp_X11_stands_76
      refine bf (by omega) (sp_rollM hk ht hp0.1 (A := A) (S := itS A k t s) hn (fun i hi => ⟨g i hi, hr i hi⟩) (fun x x0 x1 => ?_) (fun R hRo => ?_))
      · rw [f 95 x (by omega)]; exact hA x x0 x1
      · refine sp_cpyM hk (by rw [mrow_ne (by decide)]; exact hn) (fun B hB => ?_)
        rw [show (t : Int) ^ s * t = (t : Int) ^ (s + 1) from (Int.pow_succ (t : Int) s).symm, w32_i (x := (t : Int) ^ (s + 1)) (by omega), i1 s (by omega)]
        refine ih (s + 1) _ (by omega) (fun c i hc => by rw [mrow_ne (by omega), mrow_ne (by omega), f c i hc]) (fun i hi => ?_)
        rw [mrow_s, hB i hi, mrow_s]
        exact hRo i hi
  have init : ∀ (r i : Nat) (B : Int → Int), i + r = k → (∀ j : Nat, j < i → B j = j) → wp_X11_stands_46 (fun v1_1 v2_1 v3_1 v4_1 v5_1 m_1 => ∃ n_9 : Nat, wp_X11_stands_76 post n_9 v1_1 v2_1 v3_1 v4_1 v5_1 m_1) post (r + 1) t K v3 i (mrow m 96 B) := by
    intro r
    induction r with
    | zero =>
      intro i B hi hB
      unfold wp_X11_stands_46
      rw [mrow_ne (by decide), h0]
      refine bt (by omega) ⟨K + 1, ?_⟩
      have := main K 0 (mrow m 96 B) (by omega) (fun c i hc => by rw [mrow_ne (by omega)]) (fun j hj => by rw [mrow_s, hB j (by omega)]; rfl)
      rw [Int.pow_zero] at this
      exact this
    | succ r ih =>
      intro i B hi hB
      unfold wp_X11_stands_46
      rw [mrow_ne (by decide), h0, i1 i (by omega)]
      refine bf (by omega) ⟨by omega, eqm ?_⟩
      rw [mrow_set]
      refine ih (i + 1) _ (by omega) (fun j hj => ?_)
      by_cases e : j = i
      · rw [e, rset_eq rfl]
      · rw [rset_ne (by omega)]; exact hB j (by omega)
  have := init k 0 (m 96) (by omega) (fun j hj => by omega)
  rw [mrow_self] at this
  exact ⟨k + 1, this⟩
theorem op_stands {m : Mem} (hR : Rel m) (t w i : Int) : wp_X10_stands t w i m (fun r m1 => wp_X11_stands t w i m1 (fun r2 m2 => r = r2 ∧ Rel m2)) := by
  obtain ⟨k, hk, e1, e2, hm, h80⟩ := hR.row
  have e0 : w32 (m 67 20 - 1) = m 67 20 - 1 := w32_i (by omega)
  have fU : ¬ (0 ≤ i ∧ i < k) → wp_X11_stands t w i m (fun r2 m2 => -101 = r2 ∧ Rel m2) := fun q => by
    unfold wp_X11_stands
    rw [e0]
    exact sp_in (fun a b => absurd ⟨a, by omega⟩ q) (fun _ => n0 ⟨rfl, hR⟩)
  have fO : 0 ≤ i ∧ i < k → ¬ (2 ≤ t ∧ t ≤ 8) → wp_X11_stands t w i m (fun r2 m2 => -102 = r2 ∧ Rel m2) := fun h q => by
    unfold wp_X11_stands
    rw [e0]
    exact sp_in (fun _ _ => n1 (sp_in (fun a b => absurd ⟨a, b⟩ q) (fun _ => z0 ⟨rfl, hR⟩))) (fun q => absurd ⟨h.1, by omega⟩ q)
  have run : ∀ (m1 : Mem) (post : Int → Mem → Prop) (W : Int → Int), (∀ c j : Int, ¬ Scr c j → m1 c j = m c j) → Srt k (m 40) W → 0 ≤ i ∧ i < k → 2 ≤ t ∧ t ≤ 8 → (∀ s : Nat, StepsIs (num W (k - 1)) t s → (¬ (0 ≤ w ∧ w ≤ s) → ∀ m2 : Mem, Rel m2 → post (-102) m2) ∧ (0 ≤ w ∧ w ≤ s → ∀ B : Int → Int, (∀ l : Nat, l < k → B (W l) = num W l) → ∀ m2 : Mem, Rel m2 → m2 96 i = itS B k t.toNat w.toNat i.toNat → post (m2 96 i) m2)) → wp_X11_stands t w i m1 post := by
    intro m1 post W f hW hi ht H
    have f67 : m1 67 20 = k := by rw [f 67 20 (by unfold Scr; omega)]; exact e2
    unfold wp_X11_stands
    rw [show w32 (m1 67 20 - 1) = m1 67 20 - 1 from w32_i (by omega)]
    refine sp_in (fun _ _ => n1 (sp_in (fun _ _ => z1 ?_) (fun q => absurd ht q))) (fun q => absurd ⟨hi.1, by omega⟩ q)
    refine sp_stepsM hk ht hW hm f67 (fun j hj => by rw [f 80 j (by unfold Scr; omega)]; exact h80 j hj) (fun B s hB hs => ?_)
    have fr : ∀ m2 : Mem, (∀ c j : Int, ¬ (c = 96 ∨ c = 97) → m2 c j = mrow m1 95 B c j) → Rel m2 := fun m2 f2 => hR.frame (fun c j hc => by
      rw [f2 c j (fun q => hc (by unfold Scr; omega)), mrow_ne (fun q => hc (by unfold Scr; omega)), f c j hc])
    refine sp_in (fun a b => n1 ?_) (fun q => n0 ((H s hs).1 (by omega) _ (fr _ (fun _ _ _ => rfl))))
    obtain ⟨K, hK⟩ : ∃ K : Nat, w = K := ⟨w.toNat, by omega⟩
    obtain ⟨T, hT⟩ : ∃ T : Nat, t = T := ⟨t.toNat, by omega⟩
    have hs4 := hs.1
    subst hK hT
    have hA : ∀ x : Int, 0 ≤ x → x < k → B x = B x ∧ 0 ≤ B x ∧ B x ≤ 15 := fun x x0 x1 => by
      have g := num_x hW hB x.toNat (by omega)
      have g2 := num_r W (k - 1)
      rw [show ((x.toNat : Nat) : Int) = x by omega] at g
      exact ⟨rfl, by omega, by omega⟩
    refine sp_sortM hk (by omega) (by omega) (by omega) (A := B) (by rw [mrow_ne (by decide)]; exact f67) (by rw [mrow_s]; exact hA) (fun m2 f2 g2 => ?_)
    have g3 := g2 i.toNat (by omega)
    rw [show ((i.toNat : Nat) : Int) = i by omega] at g3
    exact (H s hs).2 (by omega) B hB m2 (fr m2 f2) (by rw [g3]; rfl)
  unfold wp_X10_stands
  refine sp_X7_has (fun a b => n1 ?_) (fun q => n0 (fU (by omega)))
  have hi : 0 ≤ i ∧ i < k := by omega
  refine ⟨fun q => fO hi (by omega), fun q1 => ⟨fun q => fO hi (by omega), fun q2 => ⟨fun q3 => ?_, fun q3 => ?_⟩⟩⟩
  · refine sp_numC hk e1 (fun W A hW hA => sp_stepsC hk (by omega) hW (by rw [mrow_s]; exact hA) (by rw [row_f (by decide) (by decide)]; exact e1) (fun s hs => ?_))
    have f1 : ∀ c j : Int, ¬ Scr c j → mrow (mrow m 41 W) 38 A c j = m c j := fun c j hc => by rw [row_f (fun q => hc (by unfold Scr; omega)) (fun q => hc (by unfold Scr; omega))]
    refine ⟨fun q => ?_, fun q => ?_⟩
    · obtain ⟨K, hK⟩ : ∃ K : Nat, w = K := ⟨w.toNat, by omega⟩
      obtain ⟨T, hT⟩ : ∃ T : Nat, t = T := ⟨t.toNat, by omega⟩
      have hs4 := hs.1
      subst hK hT
      have hA' : ∀ x : Int, 0 ≤ x → x < k → A x = A x ∧ 0 ≤ A x ∧ A x ≤ 15 := fun x x0 x1 => by
        have g := num_x hW hA x.toNat (by omega)
        have g2 := num_r W (k - 1)
        rw [show ((x.toNat : Nat) : Int) = x by omega] at g
        exact ⟨rfl, by omega, by omega⟩
      refine sp_sortC hk (by omega) (by omega) (A := A) (by rw [row_f (by decide) (by decide)]; exact e1) (by rw [mrow_s]; exact hA') (fun m2 f2 g2 => ⟨by omega, ?_⟩)
      refine run m2 _ W (fun c j hc => by rw [f2 c j (fun q => hc (by unfold Scr; omega)), f1 c j hc]) hW hi (by omega) (fun s' hs' => ⟨fun z => ?_, fun z B hB m3 hR3 h3 => ⟨?_, hR3⟩⟩)
      · have := steps_u hs hs'
        omega
      · have g3 := g2 i.toNat (by omega)
        rw [show ((i.toNat : Nat) : Int) = i by omega] at g3
        rw [g3, h3]
        show itS A k T K i.toNat = itS B k T K i.toNat
        have eAB : ∀ x : Int, 0 ≤ x → x < k → A x = B x := fun x x0 x1 => by
          obtain ⟨l, l1, l2⟩ := hW.2.2 x.toNat (by omega)
          rw [show x = W l by rw [l2]; omega, hA l l1, hB l l1]
        rw [itS_c eAB (fun x x0 x1 => (hA' x x0 x1).2) (by omega) K (by omega)]
    · refine run _ _ W f1 hW hi (by omega) (fun s' hs' => ⟨fun z m3 hR3 => ⟨rfl, hR3⟩, fun z => ?_⟩)
      have := steps_u hs hs'
      omega
  · obtain ⟨W, hW⟩ := srt_ex (m 40) k hk
    exact run m _ W (fun _ _ _ => rfl) hW hi (by omega) (fun s' hs' => ⟨fun z m3 hR3 => ⟨rfl, hR3⟩, fun z => by omega⟩)
