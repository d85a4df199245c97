/-! digest: the class's side -/
def mx (h v : Int) : Int := w64 (w64 (31 * h) + v)
def fd (g : Nat → Int → Int) : Nat → Int → Int
  | 0, h => h
  | k + 1, h => g k (fd g k h)
theorem fd_c {g g' : Nat → Int → Int} : ∀ (k : Nat) (h : Int), (∀ (i : Nat) (x : Int), i < k → g i x = g' i x) → fd g k h = fd g' k h
  | 0, _, _ => rfl
  | k + 1, h, hg => by unfold fd; rw [fd_c k h (fun i x hi => hg i x (by omega)), hg k _ (by omega)]
theorem i1 (j : Nat) (h : j < 1000) : w32 ((j : Int) + 1) = ((j + 1 : Nat) : Int) := by unfold w32; omega
def gL (n : Nat) (mi : Int → Int) (a : Nat) (h : Int) : Int := fd (fun j x => mx x (mi (8 * (a : Int) + ((a + 1 + j : Nat) : Int)))) (n - 1 - a) h
def g1 (a : Int → Int) (i : Nat) (h : Int) : Int := mx h (a i)
def g2 (a b : Int → Int) (i : Nat) (h : Int) : Int := mx (mx h (a i)) (b i)
def g4 (a b c d : Int → Int) (i : Nat) (h : Int) : Int := mx (mx (mx (mx h (a i)) (b i)) (c i)) (d i)
def g6 (a b c d e f : Int → Int) (i : Nat) (h : Int) : Int := mx (mx (mx (mx (mx (mx h (a i)) (b i)) (c i)) (d i)) (e i)) (f i)
def gN (n : Nat) (ld : Int → Int) (a : Nat) (h : Int) : Int := fd (fun j x => mx x (ld (8 * (a : Int) + (j : Int)))) n h
theorem dg_land {n : Nat} (hn : 2 ≤ n ∧ n ≤ 8) {m : Mem} {h : Int} {post : Int → Mem → Prop} (h0 : m 1 0 = n) (H : post (fd (gL n (m 2)) n (mx h n)) m) : wp_X3_digestOnto h m post := by
  have inner : ∀ (K : Int → Int → Mem → Prop) (a : Nat) (x : Int), a < n → K (gL n (m 2) a x) ((a + 1 : Nat) : Int) m → ∀ r j : Nat, a + 1 + j + r = n → wp_X3_digestOnto_30 K post (r + 1) (fd (fun j x => mx x (m 2 (8 * (a : Int) + ((a + 1 + j : Nat) : Int)))) j x) a ((a + 1 + j : Nat) : Int) m := by
    intro K a x ha hK r
    induction r with
    | zero =>
      intro j hj
      unfold wp_X3_digestOnto_30
      rw [h0]
      refine bt (by omega) ?_
      rw [i1 a (by omega)]
      unfold gL at hK
      rw [show n - 1 - a = j by omega] at hK
      exact hK
    | succ r ih =>
      intro j hj
      unfold wp_X3_digestOnto_30
      rw [h0, ix8 (by omega) (by omega) (by omega) (by omega), i1 (a + 1 + j) (by omega)]
      exact bf (by omega) ⟨by omega, eqm (ih (j + 1) (by omega))⟩
  have outer : ∀ r a : Nat, a + r = n → wp_X3_digestOnto_15 post (r + 1) (fd (gL n (m 2)) a (mx h n)) a m := by
    intro r
    induction r with
    | zero => intro a ha; unfold wp_X3_digestOnto_15; rw [h0]; refine bt (by omega) ?_; rw [show a = n by omega]; exact H
    | succ r ih =>
      intro a ha
      unfold wp_X3_digestOnto_15
      rw [h0, i1 a (by omega)]
      exact bf (by omega) (eqm ⟨r + 1, inner _ a _ (by omega) (ih (a + 1) (by omega)) r 0 (by omega)⟩)
  unfold wp_X3_digestOnto
  rw [h0]
  exact eqm ⟨n + 1, outer n 0 (by omega)⟩
theorem dg_tell0 {i w : Int} {m : Mem} {post : Int → Mem → Prop} (hi : 0 ≤ i ∧ i < 20) (h : post (if w = 0 then m 7 i else if w = 1 then m 8 i else if w = 2 then m 9 i else m 10 i) m) : wp_X0_tell i w m post := by
  unfold wp_X0_tell
  refine ⟨fun z => ⟨hi, ?_⟩, fun z => ⟨hi, ?_⟩, fun z => ⟨hi, ?_⟩, fun z => ⟨hi, ?_⟩⟩
  · rw [if_pos z] at h; exact h
  · rw [if_neg (by omega), if_pos z] at h; exact h
  · rw [if_neg (by omega), if_neg (by omega), if_pos z] at h; exact h
  · rw [if_neg (by omega), if_neg (by omega), if_neg (by omega)] at h; exact h
theorem dg_blk {K : Nat} (hK : K ≤ 20) {m : Mem} {h : Int} {post : Int → Mem → Prop} (h0 : m 6 0 = K) (H : post (fd (g4 (m 7) (m 8) (m 9) (m 10)) K h) m) : wp_X0_digestOnto h m post := by
  have outer : ∀ r a : Nat, a + r = K → wp_X0_digestOnto_5 post (r + 1) (fd (g4 (m 7) (m 8) (m 9) (m 10)) a h) a m := by
    intro r
    induction r with
    | zero => intro a ha; unfold wp_X0_digestOnto_5; rw [h0]; refine bt (by omega) ?_; rw [show a = K by omega]; exact H
    | succ r ih =>
      intro a ha
      unfold wp_X0_digestOnto_5
      rw [h0]
      refine bf (by omega) ⟨5, ?_⟩
      have nx := ih (a + 1) (by omega)
      have hi : 0 ≤ (a : Int) ∧ (a : Int) < 20 := by omega
      unfold wp_X0_digestOnto_17
      refine bf (by decide) (dg_tell0 hi (eqm ?_))
      simp only [reduceIte, Int.reduceEq]
      rw [show w32 (0 + 1) = 1 from rfl]
      unfold wp_X0_digestOnto_17
      refine bf (by decide) (dg_tell0 hi (eqm ?_))
      simp only [reduceIte, Int.reduceEq]
      rw [show w32 (1 + 1) = 2 from rfl]
      unfold wp_X0_digestOnto_17
      refine bf (by decide) (dg_tell0 hi (eqm ?_))
      simp only [reduceIte, Int.reduceEq]
      rw [show w32 (2 + 1) = 3 from rfl]
      unfold wp_X0_digestOnto_17
      refine bf (by decide) (dg_tell0 hi (eqm ?_))
      simp only [reduceIte, Int.reduceEq]
      rw [show w32 (3 + 1) = 4 from rfl]
      unfold wp_X0_digestOnto_17
      refine bt (by decide) ?_
      rw [i1 a (by omega)]
      exact nx
  exact ⟨K + 1, outer K 0 (by omega)⟩
theorem dg_tell8 {i w c : Int} {m : Mem} {post : Int → Mem → Prop} (ht : 0 ≤ i ∧ i < 12) (hl : -1000 ≤ m 25 i ∧ m 25 i ≤ 2000) (hb : -1000 ≤ m 26 i ∧ m 26 i ≤ 2000) (hk : 1 ≤ m 18 i ∧ m 18 i ≤ 48) (h : post (if w = 0 then m 22 i else if w = 1 then m 23 i else if w = 2 then m 24 i else ((if c ≤ m 25 i + m 18 i then 1 else 0) + (if c ≤ m 26 i + m 18 i then 1 else 0))) m) : wp_X8_tell i w c m post := by
  unfold wp_X8_tell
  refine ⟨fun z => ⟨ht, ?_⟩, fun z => ⟨ht, ?_⟩, fun z => ⟨ht, ?_⟩, fun z => sp_onTheWayC ht hl hb hk ?_⟩
  · rw [if_pos z] at h; exact h
  · rw [if_neg (by omega), if_pos z] at h; exact h
  · rw [if_neg (by omega), if_neg (by omega), if_pos z] at h; exact h
  · rw [if_neg (by omega), if_neg (by omega), if_neg (by omega)] at h; exact h
theorem dg_trn {K : Nat} (hK : K ≤ 12) {m : Mem} {h c : Int} {post : Int → Mem → Prop} (h0 : m 13 0 = K) (hr : ∀ i : Int, 0 ≤ i → i < K → (-1000 ≤ m 25 i ∧ m 25 i ≤ 2000) ∧ (-1000 ≤ m 26 i ∧ m 26 i ≤ 2000) ∧ (1 ≤ m 18 i ∧ m 18 i ≤ 48)) (H : post (fd (g4 (m 22) (m 23) (m 24) (fun i => (if c ≤ m 25 i + m 18 i then 1 else 0) + (if c ≤ m 26 i + m 18 i then 1 else 0))) K h) m) : wp_X8_digestOnto h c m post := by
  have outer : ∀ r a : Nat, a + r = K → wp_X8_digestOnto_6 post (r + 1) c (fd (g4 (m 22) (m 23) (m 24) (fun i => (if c ≤ m 25 i + m 18 i then 1 else 0) + (if c ≤ m 26 i + m 18 i then 1 else 0))) a h) a m := by
    intro r
    induction r with
    | zero => intro a ha; unfold wp_X8_digestOnto_6; rw [h0]; refine bt (by omega) ?_; rw [show a = K by omega]; exact H
    | succ r ih =>
      intro a ha
      unfold wp_X8_digestOnto_6
      rw [h0]
      refine bf (by omega) ⟨5, ?_⟩
      have nx := ih (a + 1) (by omega)
      have hi : 0 ≤ (a : Int) ∧ (a : Int) < 12 := by omega
      obtain ⟨r1, r2, r3⟩ := hr a (by omega) (by omega)
      unfold wp_X8_digestOnto_18
      refine bf (by decide) (dg_tell8 hi r1 r2 r3 (eqm ?_))
      simp only [reduceIte, Int.reduceEq]
      rw [show w32 (0 + 1) = 1 from rfl]
      unfold wp_X8_digestOnto_18
      refine bf (by decide) (dg_tell8 hi r1 r2 r3 (eqm ?_))
      simp only [reduceIte, Int.reduceEq]
      rw [show w32 (1 + 1) = 2 from rfl]
      unfold wp_X8_digestOnto_18
      refine bf (by decide) (dg_tell8 hi r1 r2 r3 (eqm ?_))
      simp only [reduceIte, Int.reduceEq]
      rw [show w32 (2 + 1) = 3 from rfl]
      unfold wp_X8_digestOnto_18
      refine bf (by decide) (dg_tell8 hi r1 r2 r3 (eqm ?_))
      simp only [reduceIte, Int.reduceEq]
      rw [show w32 (3 + 1) = 4 from rfl]
      unfold wp_X8_digestOnto_18
      refine bt (by decide) ?_
      rw [i1 a (by omega)]
      exact nx
  exact ⟨K + 1, outer K 0 (by omega)⟩
theorem dg_tell9 {i w : Int} {m : Mem} {post : Int → Mem → Prop} (hi : 0 ≤ i ∧ i < 30) (h : post (if w = 0 then m 31 i else if w = 1 then m 33 i else if w = 2 then m 34 i else if w = 3 then m 35 i else if w = 4 then m 36 i else m 32 i) m) : wp_X9_tell i w m post := by
  unfold wp_X9_tell
  refine ⟨fun z => ⟨hi, ?_⟩, fun z => ⟨hi, ?_⟩, fun z => ⟨hi, ?_⟩, fun z => ⟨hi, ?_⟩, fun z => ⟨hi, ?_⟩, fun z => ⟨hi, ?_⟩⟩
  · rw [if_pos z] at h; exact h
  · rw [if_neg (by omega), if_pos z] at h; exact h
  · rw [if_neg (by omega), if_neg (by omega), if_pos z] at h; exact h
  · rw [if_neg (by omega), if_neg (by omega), if_neg (by omega), if_pos z] at h; exact h
  · rw [if_neg (by omega), if_neg (by omega), if_neg (by omega), if_neg (by omega), if_pos z] at h; exact h
  · rw [if_neg (by omega), if_neg (by omega), if_neg (by omega), if_neg (by omega), if_neg (by omega)] at h; exact h
theorem dg_trf {K : Nat} (hK : K ≤ 30) {m : Mem} {h : Int} {post : Int → Mem → Prop} (h0 : m 28 4 = K) (H : post (mx (fd (g6 (m 31) (m 33) (m 34) (m 35) (m 36) (m 32)) K h) (m 28 0)) m) : wp_X9_digestOnto h m post := by
  have outer : ∀ r a : Nat, a + r = K → wp_X9_digestOnto_5 (fun v3_4 m_4 => post (w64 (w64 (31 * v3_4) + m_4 28 0)) m_4) post (r + 1) (fd (g6 (m 31) (m 33) (m 34) (m 35) (m 36) (m 32)) a h) a m := by
    intro r
    induction r with
    | zero => intro a ha; unfold wp_X9_digestOnto_5; rw [h0]; refine bt (by omega) ?_; rw [show a = K by omega]; exact H
    | succ r ih =>
      intro a ha
      unfold wp_X9_digestOnto_5
      rw [h0]
      refine bf (by omega) ⟨7, ?_⟩
      have nx := ih (a + 1) (by omega)
      have hi : 0 ≤ (a : Int) ∧ (a : Int) < 30 := by omega
      unfold wp_X9_digestOnto_17
      refine bf (by decide) (dg_tell9 hi (eqm ?_))
      simp only [reduceIte, Int.reduceEq]
      rw [show w32 (0 + 1) = 1 from rfl]
      unfold wp_X9_digestOnto_17
      refine bf (by decide) (dg_tell9 hi (eqm ?_))
      simp only [reduceIte, Int.reduceEq]
      rw [show w32 (1 + 1) = 2 from rfl]
      unfold wp_X9_digestOnto_17
      refine bf (by decide) (dg_tell9 hi (eqm ?_))
      simp only [reduceIte, Int.reduceEq]
      rw [show w32 (2 + 1) = 3 from rfl]
      unfold wp_X9_digestOnto_17
      refine bf (by decide) (dg_tell9 hi (eqm ?_))
      simp only [reduceIte, Int.reduceEq]
      rw [show w32 (3 + 1) = 4 from rfl]
      unfold wp_X9_digestOnto_17
      refine bf (by decide) (dg_tell9 hi (eqm ?_))
      simp only [reduceIte, Int.reduceEq]
      rw [show w32 (4 + 1) = 5 from rfl]
      unfold wp_X9_digestOnto_17
      refine bf (by decide) (dg_tell9 hi (eqm ?_))
      simp only [reduceIte, Int.reduceEq]
      rw [show w32 (5 + 1) = 6 from rfl]
      unfold wp_X9_digestOnto_17
      refine bt (by decide) ?_
      rw [i1 a (by omega)]
      exact nx
  exact ⟨K + 1, outer K 0 (by omega)⟩
theorem dg_row {K : Nat} (hK : K ≤ 16) {m : Mem} {h : Int} {post : Int → Mem → Prop} (h0 : m 37 0 = K) (H : post (fd (g1 (m 40)) K h) m) : wp_X7_digestOnto h m post := by
  have outer : ∀ r a : Nat, a + r = K → wp_X7_digestOnto_5 post (r + 1) (fd (g1 (m 40)) a h) a m := by
    intro r
    induction r with
    | zero => intro a ha; unfold wp_X7_digestOnto_5; rw [h0]; refine bt (by omega) ?_; rw [show a = K by omega]; exact H
    | succ r ih =>
      intro a ha
      unfold wp_X7_digestOnto_5
      rw [h0, i1 a (by omega)]
      exact bf (by omega) ⟨by omega, eqm (ih (a + 1) (by omega))⟩
  exact ⟨K + 1, outer K 0 (by omega)⟩
theorem dg_page {K : Nat} (hK : K ≤ 40) {m : Mem} {h : Int} {post : Int → Mem → Prop} (h0 : m 4 0 = K) (H : post (fd (g1 (m 5)) K h) m) : wp_X6_digestOnto h m post := by
  have outer : ∀ r a : Nat, a + r = K → wp_X6_digestOnto_5 post (r + 1) (fd (g1 (m 5)) a h) a m := by
    intro r
    induction r with
    | zero => intro a ha; unfold wp_X6_digestOnto_5; rw [h0]; refine bt (by omega) ?_; rw [show a = K by omega]; exact H
    | succ r ih =>
      intro a ha
      unfold wp_X6_digestOnto_5
      rw [h0, i1 a (by omega)]
      exact bf (by omega) ⟨by omega, eqm (ih (a + 1) (by omega))⟩
  exact ⟨K + 1, outer K 0 (by omega)⟩
theorem dg_leg {K : Nat} (hK : K ≤ 5) {m : Mem} {h : Int} {post : Int → Mem → Prop} (h0 : m 59 0 = K) (H : post (fd (g2 (m 60) (m 61)) K h) m) : wp_X4_digestOnto h m post := by
  have outer : ∀ r a : Nat, a + r = K → wp_X4_digestOnto_5 post (r + 1) (fd (g2 (m 60) (m 61)) a h) a m := by
    intro r
    induction r with
    | zero => intro a ha; unfold wp_X4_digestOnto_5; rw [h0]; refine bt (by omega) ?_; rw [show a = K by omega]; exact H
    | succ r ih =>
      intro a ha
      unfold wp_X4_digestOnto_5
      rw [h0, i1 a (by omega)]
      exact bf (by omega) ⟨by omega, by omega, eqm (ih (a + 1) (by omega))⟩
  exact ⟨K + 1, outer K 0 (by omega)⟩
theorem dg_emp {n : Nat} (hn : n ≤ 8) {m : Mem} {h : Int} {post : Int → Mem → Prop} (H : post (fd (g1 (m 48)) (3 * n) h) m) : wp_X2_digestOnto h n m post := by
  have outer : ∀ r a : Nat, a + r = 3 * n → wp_X2_digestOnto_6 post (r + 1) n (fd (g1 (m 48)) a h) a m := by
    intro r
    induction r with
    | zero => intro a ha; unfold wp_X2_digestOnto_6; rw [w32_i (x := (n : Int) * 3) (by omega)]; refine bt (by omega) ?_; rw [show a = 3 * n by omega]; exact H
    | succ r ih =>
      intro a ha
      unfold wp_X2_digestOnto_6
      rw [w32_i (x := (n : Int) * 3) (by omega), i1 a (by omega)]
      exact bf (by omega) ⟨by omega, eqm (ih (a + 1) (by omega))⟩
  exact ⟨3 * n + 1, outer (3 * n) 0 (by omega)⟩
theorem dg_net {n : Nat} (hn : n ≤ 8) {m : Mem} {h : Int} {post : Int → Mem → Prop} (H : post (fd (g1 (m 45)) n (fd (gN n (m 44)) n h)) m) : wp_X5_digestOnto h n m post := by
  have l59 : ∀ (x : Int), post (fd (g1 (m 45)) n x) m → ∀ r a : Nat, a + r = n → wp_X5_digestOnto_59 post (r + 1) n (fd (g1 (m 45)) a x) a m := by
    intro x hx r
    induction r with
    | zero => intro a ha; unfold wp_X5_digestOnto_59; refine bt (by omega) ?_; rw [show a = n by omega]; exact hx
    | succ r ih =>
      intro a ha
      unfold wp_X5_digestOnto_59
      rw [i1 a (by omega)]
      exact bf (by omega) ⟨by omega, eqm (ih (a + 1) (by omega))⟩
  have inner : ∀ (K : Int → Int → Int → Mem → Prop) (a : Nat) (x : Int), a < n → K n (gN n (m 44) a x) ((a + 1 : Nat) : Int) m → ∀ r j : Nat, j + r = n → wp_X5_digestOnto_15 K post (r + 1) n (fd (fun j x => mx x (m 44 (8 * (a : Int) + (j : Int)))) j x) a j m := by
    intro K a x ha hK r
    induction r with
    | zero =>
      intro j hj
      unfold wp_X5_digestOnto_15
      refine bt (by omega) ?_
      rw [i1 a (by omega), show j = n by omega]
      exact hK
    | succ r ih =>
      intro j hj
      unfold wp_X5_digestOnto_15
      rw [ix8 (by omega) (by omega) (by omega) (by omega), i1 j (by omega)]
      exact bf (by omega) ⟨by omega, eqm (ih (j + 1) (by omega))⟩
  have outer : ∀ r a : Nat, a + r = n → wp_X5_digestOnto_6 (fun v3_4 v4_4 v6_4 m_4 => ∃ n_6 : Nat, wp_X5_digestOnto_59 post n_6 v3_4 v4_4 v6_4 m_4) post (r + 1) n (fd (gN n (m 44)) a h) a m := by
    intro r
    induction r with
    | zero =>
      intro a ha
      unfold wp_X5_digestOnto_6
      refine bt (by omega) ⟨n + 1, ?_⟩
      rw [show a = n by omega]
      exact l59 _ H n 0 (by omega)
    | succ r ih =>
      intro a ha
      unfold wp_X5_digestOnto_6
      exact bf (by omega) ⟨n + 1, inner _ a _ (by omega) (ih (a + 1) (by omega)) n 0 (by omega)⟩
  exact ⟨n + 1, outer n 0 (by omega)⟩
