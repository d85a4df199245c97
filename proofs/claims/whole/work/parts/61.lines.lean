/-! all lines; how many -/
def an1 (a b : Nat) (x : Int) : Int := if (a : Int) = b then or64 x 0 else or64 x (shl64 1 (8 * (a : Int) + b))
def an2 (n a : Nat) (x : Int) : Int := fd (an1 a) n x
def an (n : Nat) : Int := fd (an2 n) n 0
theorem sp_all {n : Nat} (hn : n ≤ 8) {m : Mem} {post : Int → Mem → Prop} (h0 : m 67 0 = n) (h : post (an n) m) : wp_X11_allLines m post := by
  have inner : ∀ (K : Int → Int → Mem → Prop) (a : Nat) (x : Int), a < n → K (an2 n a x) ((a + 1 : Nat) : Int) m → ∀ r b : Nat, b + r = n → wp_X11_allLines_15 K post (r + 1) (fd (an1 a) b x) a b m := by
    intro K a x ha hK r
    induction r with
    | zero =>
      intro b hb
      unfold wp_X11_allLines_15
      rw [h0, i1 a (by omega)]
      refine bt (by omega) ?_
      rw [show b = n by omega]
      exact hK
    | succ r ih =>
      intro b hb
      have nx := ih (b + 1) (by omega)
      have e : fd (an1 a) (b + 1) x = an1 a b (fd (an1 a) b x) := rfl
      rw [e] at nx
      generalize fd (an1 a) b x = y at nx ⊢
      unfold wp_X11_allLines_15
      rw [h0, i1 b (by omega), ix8' (by omega) (by omega) (by omega) (by omega)]
      unfold an1 at nx
      refine bf (by omega) ⟨fun z => eqm ?_, fun z => eqm ?_⟩
      · rw [if_neg z] at nx; exact nx
      · rw [if_pos z] at nx; exact nx
  have outer : ∀ r a : Nat, a + r = n → wp_X11_allLines_4 post (r + 1) (fd (an2 n) a 0) a m := by
    intro r
    induction r with
    | zero => intro a ha; unfold wp_X11_allLines_4; rw [h0]; refine bt (by omega) ?_; rw [show a = n by omega]; exact h
    | succ r ih =>
      intro a ha
      unfold wp_X11_allLines_4
      rw [h0]
      exact bf (by omega) ⟨n + 1, inner _ a _ (by omega) (ih (a + 1) (by omega)) n 0 (by omega)⟩
  exact ⟨n + 1, outer n 0 (by omega)⟩
theorem sp_full {n : Nat} (hn : n ≤ 8) {m : Mem} {post : Int → Mem → Prop} (h : post (an n) m) : wp_X5_fullNet n m post := by
  have inner : ∀ (K : Int → Int → Int → Mem → Prop) (a : Nat) (x : Int), a < n → K n (an2 n a x) ((a + 1 : Nat) : Int) m → ∀ r b : Nat, b + r = n → wp_X5_fullNet_12 K post (r + 1) n (fd (an1 a) b x) a b m := by
    intro K a x ha hK r
    induction r with
    | zero =>
      intro b hb
      unfold wp_X5_fullNet_12
      rw [i1 a (by omega)]
      refine bt (by omega) ?_
      rw [show b = n by omega]
      exact hK
    | succ r ih =>
      intro b hb
      have nx := ih (b + 1) (by omega)
      have e : fd (an1 a) (b + 1) x = an1 a b (fd (an1 a) b x) := rfl
      rw [e] at nx
      generalize fd (an1 a) b x = y at nx ⊢
      unfold wp_X5_fullNet_12
      rw [i1 b (by omega), ix8 (by omega) (by omega) (by omega) (by omega)]
      unfold an1 at nx
      refine bf (by omega) ⟨fun z => eqm ?_, fun z => eqm ?_⟩
      · rw [if_neg z] at nx; exact nx
      · rw [if_pos z] at nx; exact nx
  have outer : ∀ r a : Nat, a + r = n → wp_X5_fullNet_4 post (r + 1) n (fd (an2 n) a 0) a m := by
    intro r
    induction r with
    | zero => intro a ha; unfold wp_X5_fullNet_4; refine bt (by omega) ?_; rw [show a = n by omega]; exact h
    | succ r ih =>
      intro a ha
      unfold wp_X5_fullNet_4
      exact bf (by omega) ⟨n + 1, inner _ a _ (by omega) (ih (a + 1) (by omega)) n 0 (by omega)⟩
  exact ⟨n + 1, outer n 0 (by omega)⟩
theorem an_b {n : Nat} (hn : n ≤ 8) : ∀ q : Nat, q < 64 → (b64 (an n) q = 1 ↔ (q / 8 < n ∧ q % 8 < n ∧ q / 8 ≠ q % 8)) := by
  have inner : ∀ (a : Nat) (x : Int), a < n → (∀ q : Nat, q < 64 → (b64 x q = 1 ↔ (q / 8 < a ∧ q % 8 < n ∧ q / 8 ≠ q % 8))) → ∀ b : Nat, b ≤ n → (∀ q : Nat, q < 64 → (b64 (fd (an1 a) b x) q = 1 ↔ ((q / 8 < a ∨ (q / 8 = a ∧ q % 8 < b)) ∧ q % 8 < n ∧ q / 8 ≠ q % 8))) := by
    intro a x ha hx b
    induction b with
    | zero => intro hb q hq; exact (hx q hq).trans (by omega)
    | succ b ih =>
      intro hb q hq
      have ih := ih (by omega) q hq
      show b64 (an1 a b (fd (an1 a) b x)) q = 1 ↔ _
      generalize fd (an1 a) b x = y at ih ⊢
      unfold an1
      split
      · rename_i z
        rw [b64_or0 _ hq, ih]
        omega
      · rename_i z
        rw [show 8 * (a : Int) + (b : Int) = ((8 * a + b : Nat) : Int) by omega, b64_or _ (by omega) hq, ih]
        omega
  have outer : ∀ a : Nat, a ≤ n → ∀ q : Nat, q < 64 → (b64 (fd (an2 n) a 0) q = 1 ↔ (q / 8 < a ∧ q % 8 < n ∧ q / 8 ≠ q % 8)) := by
    intro a
    induction a with
    | zero => intro _ q hq; exact ⟨fun z => absurd z (b64_0 hq), fun z => by omega⟩
    | succ a ih =>
      intro ha q hq
      have := inner a (fd (an2 n) a 0) (by omega) (ih (by omega)) n (by omega) q hq
      show b64 (fd (an1 a) n (fd (an2 n) a 0)) q = 1 ↔ _
      rw [this]
      omega
  exact outer n (by omega)
def bcl (v0 : Int) : Int :=
  let v1 := w64 (v0 - and64 (ushr64 v0 1) 6148914691236517205)
  let v2 := w64 (and64 v1 3689348814741910323 + and64 (ushr64 v1 2) 3689348814741910323)
  let v3 := and64 (w64 (v2 + ushr64 v2 4)) 1085102592571150095
  let v4 := w64 (v3 + ushr64 v3 8)
  let v5 := w64 (v4 + ushr64 v4 16)
  let v6 := w64 (v5 + ushr64 v5 32)
  and32 (w32 v6) 127
theorem sp_bcl {v : Int} {m : Mem} {post : Int → Mem → Prop} (h : post (bcl v) m) : wp_J13_bitCount_95d88 v m post := by
  unfold wp_J13_bitCount_95d88
  exact eqm (eqm (eqm (eqm (eqm (eqm h)))))
theorem bcl_8 {x : Int} (h : 0 ≤ x ∧ x < 256) : bcl x = pc x := by
  have hc : ∀ a : Fin 256, bcl (a.val : Int) = pc (a.val : Int) := by decide +kernel
  have := hc ⟨x.toNat, by omega⟩
  rw [show ((⟨x.toNat, by omega⟩ : Fin 256).val : Int) = x from Int.toNat_of_nonneg h.1] at this
  exact this
theorem sp_ones8 {v : Int} (h : 0 ≤ v ∧ v < 256) {m : Mem} {post : Int → Mem → Prop} (H : post (pc v) m) : wp_X11_ones v m post := by
  have hd : ∀ a : Fin 256, ¬ (a.val : Int) = 0 → (0 ≤ and64 (a.val : Int) (w64 ((a.val : Int) - 1)) ∧ and64 (a.val : Int) (w64 ((a.val : Int) - 1)) < 256) ∧ pc (and64 (a.val : Int) (w64 ((a.val : Int) - 1))) + 1 = pc (a.val : Int) := by decide +kernel
  have h0 : ∀ a : Fin 256, pc (a.val : Int) = 0 → (a.val : Int) = 0 := by decide +kernel
  have key : ∀ (k : Nat) (c x : Int), 0 ≤ x ∧ x < 256 → 0 ≤ c ∧ c ≤ 8 → pc x ≤ k → c + pc x = pc v → wp_X11_ones_4 post (k + 1) c x m := by
    intro k
    induction k with
    | zero =>
      intro c x hx hc hk hv
      have p0 : 0 ≤ pc x := by
        unfold pc
        have g0 := bit_01 x 0
        have g1 := bit_01 x 1
        have g2 := bit_01 x 2
        have g3 := bit_01 x 3
        have g4 := bit_01 x 4
        have g5 := bit_01 x 5
        have g6 := bit_01 x 6
        have g7 := bit_01 x 7
        omega
      have := h0 ⟨x.toNat, by omega⟩
      rw [show ((⟨x.toNat, by omega⟩ : Fin 256).val : Int) = x from Int.toNat_of_nonneg hx.1] at this
      have hx0 := this (by omega)
      unfold wp_X11_ones_4
      refine bt (by rw [hx0]; decide) ?_
      rw [show c = pc v by omega]
      exact H
    | succ k ih =>
      intro c x hx hc hk hv
      unfold wp_X11_ones_4
      by_cases z : x = 0
      · refine bt (by rw [z]; decide) ?_
        rw [show c = pc v by rw [z, show pc 0 = 0 by decide] at hv; omega]
        exact H
      · have := hd ⟨x.toNat, by omega⟩
        rw [show ((⟨x.toNat, by omega⟩ : Fin 256).val : Int) = x from Int.toNat_of_nonneg hx.1] at this
        have w := this z
        have hp := pc_le v
        have hp0 : 0 ≤ pc (and64 x (w64 (x - 1))) := by
          unfold pc
          have g0 := bit_01 (and64 x (w64 (x - 1))) 0
          have g1 := bit_01 (and64 x (w64 (x - 1))) 1
          have g2 := bit_01 (and64 x (w64 (x - 1))) 2
          have g3 := bit_01 (and64 x (w64 (x - 1))) 3
          have g4 := bit_01 (and64 x (w64 (x - 1))) 4
          have g5 := bit_01 (and64 x (w64 (x - 1))) 5
          have g6 := bit_01 (and64 x (w64 (x - 1))) 6
          have g7 := bit_01 (and64 x (w64 (x - 1))) 7
          omega
        refine bf (by unfold lcmp; rw [if_pos (by omega)]; decide) (eqm ?_)
        rw [w32_i (by omega)]
        exact ih (c + 1) _ w.1 (by omega) (by omega) (by omega)
  exact ⟨9, key 8 0 v h (by omega) (pc_le v) (by omega)⟩
