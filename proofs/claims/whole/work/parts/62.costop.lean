/-! cost -/
theorem byt_u (x : Int) {k : Int} (h0 : 0 ≤ k) (h8 : k < 8) : and64 (ushr64 x (w32 (k * 8))) 255 = byt x k := by
  obtain ⟨j, rfl⟩ := Int.eq_ofNat_of_zero_le h0
  have e : w32 ((j : Int) * 8) = ((8 * j : Nat) : Int) := by unfold w32; omega
  rw [e, ushr64_k (by omega), and64_255]
  unfold byt w64
  rcases (show j = 0 ∨ j = 1 ∨ j = 2 ∨ j = 3 ∨ j = 4 ∨ j = 5 ∨ j = 6 ∨ j = 7 by omega) with rfl | rfl | rfl | rfl | rfl | rfl | rfl | rfl <;> (simp only [Int.toNat_natCast, Nat.reduceMul, Nat.reducePow]; omega)
theorem byt_s {x : Int} (hx : r64 x) {k : Int} (h0 : 0 ≤ k) (h8 : k < 8) : and64 (shr64 x (w32 (8 * k))) 255 = byt x k := by
  obtain ⟨j, rfl⟩ := Int.eq_ofNat_of_zero_le h0
  have e : w32 (8 * (j : Int)) = ((8 * j : Nat) : Int) := by unfold w32; omega
  rw [e, shr64_k hx (by omega), and64_255]
  unfold byt
  rw [Int.toNat_natCast]
def Fits (n : Nat) (tr : Int → Int) (v : Int) : Prop := ∀ a : Nat, a < n → pc (byt v a) ≤ tr a
theorem sp_fits {n : Nat} (hn : n ≤ 8) {v : Int} {m : Mem} {post : Int → Mem → Prop} (h1 : Fits n (m 45) v → post 1 m) (h0 : ¬ Fits n (m 45) v → post 0 m) : wp_X5_fitsTracks v n m post := by
  have key : ∀ r a : Nat, a + r = n → (∀ b : Nat, b < a → pc (byt v b) ≤ m 45 b) → wp_X5_fitsTracks_3 post (r + 1) v n a m := by
    intro r
    induction r with
    | zero => intro a ha hf; unfold wp_X5_fitsTracks_3; exact bt (by omega) (h1 (fun b hb => hf b (by omega)))
    | succ r ih =>
      intro a ha hf
      unfold wp_X5_fitsTracks_3
      rw [byt_u v (by omega) (by omega), i1 a (by omega)]
      refine bf (by omega) (sp_bcl ⟨by omega, ?_⟩)
      rw [bcl_8 (byt_r v a)]
      refine ⟨fun q => ih (a + 1) (by omega) (fun b hb => ?_), fun q => h0 (fun z => q (z a (by omega)))⟩
      by_cases e : b = a
      · rw [e]; exact q
      · exact hf b (by omega)
  exact ⟨n + 1, key n 0 (by omega) (fun b hb => by omega)⟩
theorem sp_isNet24 {n : Nat} (hn : n ≤ 8) {v f : Int} (hv : r64 v) (hf : f = 0 ∨ f = 1) {tr : Int → Int} {m : Mem} {post : Int → Mem → Prop} (e0 : m 67 0 = n) (ht : ∀ a : Nat, a < n → m 82 a = tr a) (h1 : f = 1 → Fits n tr v → post 1 m) (h0 : ¬ (f = 1 ∧ Fits n tr v) → post 0 m) : ∃ k : Nat, wp_X11_isNet_24 post k v f 0 m := by
  have key : ∀ (r a : Nat) (g : Int), a + r = n → ((g = 1 ∧ f = 1 ∧ ∀ b : Nat, b < a → pc (byt v b) ≤ tr b) ∨ (g = 0 ∧ ¬ (f = 1 ∧ Fits n tr v))) → wp_X11_isNet_24 post (r + 1) v g a m := by
    intro r
    induction r with
    | zero =>
      intro a g ha hg
      unfold wp_X11_isNet_24
      rw [e0]
      refine bt (by omega) ?_
      rcases hg with ⟨rfl, hf1, hb⟩ | ⟨rfl, hno⟩
      · exact ⟨Or.inr rfl, h1 hf1 (fun b hb' => hb b (by omega))⟩
      · exact ⟨Or.inl rfl, h0 hno⟩
    | succ r ih =>
      intro a g ha hg
      unfold wp_X11_isNet_24
      rw [e0, byt_s hv (by omega) (by omega), i1 a (by omega)]
      refine bf (by omega) ?_
      rcases hg with ⟨rfl, hf1, hb⟩ | ⟨rfl, hno⟩
      · refine z1 (sp_ones8 (byt_r v a) ⟨by omega, ?_⟩)
        rw [ht a (by omega)]
        refine ⟨fun q => ih (a + 1) 0 (by omega) (Or.inr ⟨rfl, fun z => ?_⟩), fun q => ih (a + 1) 1 (by omega) (Or.inl ⟨rfl, hf1, fun b hb' => ?_⟩)⟩
        · have := z.2 a (by omega); omega
        · by_cases e : b = a
          · rw [e]; omega
          · exact hb b (by omega)
      · exact z0 (ih (a + 1) 0 (by omega) (Or.inr ⟨rfl, hno⟩))
  refine ⟨n + 1, key n 0 f (by omega) ?_⟩
  rcases hf with rfl | rfl
  · exact Or.inr ⟨rfl, fun z => by omega⟩
  · exact Or.inl ⟨rfl, rfl, fun b hb => by omega⟩
theorem sub_b {v w : Int} (h : and64 v (xor64 w (-1)) = 0) : ∀ q : Nat, q < 64 → b64 v q = 1 → b64 w q = 1 := by
  intro q hq hv
  rw [b64_l _ hq] at hv ⊢
  have e : BitVec.ofInt 64 (and64 v (xor64 w (-1))) = BitVec.ofInt 64 v &&& (BitVec.ofInt 64 w ^^^ BitVec.ofInt 64 (-1)) := by
    unfold and64 xor64
    rw [← Int64.toInt_toBitVec, BitVec.ofInt_toInt, Int64.toBitVec_and, Int64.toBitVec_ofInt, Int64.toBitVec_ofInt, ← Int64.toInt_toBitVec, BitVec.ofInt_toInt, Int64.toBitVec_xor, Int64.toBitVec_ofInt, Int64.toBitVec_ofInt]
  rw [h] at e
  have e2 := congrArg (fun X => X.getLsbD q) e
  simp only [BitVec.getLsbD_and, BitVec.getLsbD_xor] at e2
  have e3 : (BitVec.ofInt 64 (-1)).getLsbD q = true := by
    rw [show BitVec.ofInt 64 (-1) = BitVec.allOnes 64 by decide, BitVec.getLsbD_allOnes]
    exact decide_eq_true hq
  have e4 : (BitVec.ofInt 64 0).getLsbD q = false := by
    rw [show BitVec.ofInt 64 0 = 0#64 from rfl]; simp
  rw [hv, e3, e4] at e2
  revert e2
  cases (BitVec.ofInt 64 w).getLsbD q <;> simp
theorem lcmp_0 (x : Int) : lcmp x 0 = 0 ↔ x = 0 := by
  unfold lcmp
  constructor
  · intro h; split at h <;> (try split at h) <;> omega
  · intro h; rw [h]; decide
theorem nok_rel {m : Mem} (hR : Rel m) {n : Nat} (hn : m 1 0 = n) {r : Int} (hr : ∀ q : Nat, q < 64 → b64 r q = 1 → q / 8 < n ∧ q % 8 < n ∧ q / 8 ≠ q % 8) : NOk n (m 2) (m 44) r := by
  have h3 := hR.n
  refine ⟨fun i j i1 i2 j1 j2 ij => ?_, fun i j i1 i2 j1 j2 => ?_, hr⟩
  · have := hR.1.2.2.2 i j i1 (by omega) j1 (by omega) ij; omega
  · have := hR.2.2.2.2.2.2.1.2.2.2.2.1 i j i1 (by omega) j1 (by omega)
    exact ⟨⟨this.2.1, this.2.2.1⟩, this.2.2.2⟩
theorem sp_cost_C {m m1 : Mem} (hR : Rel m) (hf : ∀ c i : Int, ¬ Scr c i → m1 c i = m c i) {n : Nat} (hn : m 1 0 = n) {r : Int} (hr : ∀ q : Nat, q < 64 → b64 r q = 1 → q / 8 < n ∧ q % 8 < n ∧ q / 8 ≠ q % 8) {post : Int → Mem → Prop} (h : ∀ m' : Mem, (∀ c i : Int, ¬ Scr c i → m' c i = m c i) → post (ncost n (m 43 0) (m 2) (m 44) r) m') : wp_X5_costOf r m1 post := by
  have h3 := hR.n
  have ht := hR.2.2.2.2.2.2.1
  have e2 : m1 2 = m 2 := funext fun i => hf 2 i (by unfold Scr; omega)
  have e44 : m1 44 = m 44 := funext fun i => hf 44 i (by unfold Scr; omega)
  have e43 : m1 43 0 = m 43 0 := hf 43 0 (by unfold Scr; omega)
  refine sp_costOfC (n := n) (by omega) (by rw [hf 1 0 (by unfold Scr; omega)]; exact hn) (by rw [e43]; exact ⟨ht.2.1, ht.2.2.1⟩) (by rw [e2, e44]; exact nok_rel hR hn hr) (fun m' g => ?_)
  rw [e43, e2, e44]
  exact h m' (fun c i q => by rw [g c i (by unfold Scr at q; omega)]; exact hf c i q)
theorem sp_cost_M {m m1 : Mem} (hR : Rel m) (hf : ∀ c i : Int, ¬ Scr c i → m1 c i = m c i) {n : Nat} (hn : m 1 0 = n) {r : Int} (hr : ∀ q : Nat, q < 64 → b64 r q = 1 → q / 8 < n ∧ q % 8 < n ∧ q / 8 ≠ q % 8) {post : Int → Mem → Prop} (h : ∀ m' : Mem, (∀ c i : Int, ¬ c = 86 → m' c i = m1 c i) → post (ncost n (m 43 0) (m 2) (m 44) r) m') : wp_X11_costOf r m1 post := by
  have h3 := hR.n
  have ht := hR.2.2.2.2.2.2.1
  have e68 : m1 68 = m 68 := funext fun i => hf 68 i (by unfold Scr; omega)
  have e81 : m1 81 = m 81 := funext fun i => hf 81 i (by unfold Scr; omega)
  refine sp_costOfM (n := n) (e := m 43 0) (by omega) (by rw [hf 67 0 (by unfold Scr; omega)]; omega) ⟨ht.2.1, ht.2.2.1⟩ (by rw [hf 67 24 (by unfold Scr; omega)]; exact ht.1) (nok_rel hR hn hr) (fun i j i1 i2 j1 j2 ij => ?_) (fun i j i1 i2 j1 j2 => ?_) h
  · rw [e68]; exact (hR.1.2.2.2 i j i1 (by omega) j1 (by omega) ij).1
  · rw [e81]; exact (ht.2.2.2.2.1 i j i1 (by omega) j1 (by omega)).1
theorem op_cost {m : Mem} (hR : Rel m) {v : Int} (hv : r64 v) : wp_X10_cost v m (fun r m1 => wp_X11_cost v m1 (fun r2 m2 => r = r2 ∧ Rel m2)) := by
  obtain ⟨n1', n2, n3⟩ := hR.n
  have ht := hR.2.2.2.2.2.2.1
  obtain ⟨n, hn⟩ := Int.eq_ofNat_of_zero_le (show 0 ≤ m 1 0 by omega)
  have hn8 : n ≤ 8 := by omega
  have mm : ∀ (m1 : Mem) (post : Int → Mem → Prop), (∀ c i : Int, ¬ Scr c i → m1 c i = m c i) → (lcmp (and64 v (xor64 (an n) (-1))) 0 = 0 ∧ Fits n (m 45) v → wp_X11_costOf v m1 post) → (¬ (lcmp (and64 v (xor64 (an n) (-1))) 0 = 0 ∧ Fits n (m 45) v) → post (-102) m1) → wp_X11_cost v m1 post := by
    intro m1 post hf h1 h0
    have e67 : m1 67 0 = n := by rw [hf 67 0 (by unfold Scr; omega)]; omega
    have e82 : ∀ a : Nat, a < n → m1 82 a = m 45 a := fun a ha => by
      rw [hf 82 _ (by unfold Scr; omega)]
      exact (ht.2.2.2.2.2 (a : Int) (by omega) (by omega)).1
    unfold wp_X11_cost wp_X11_isNet
    refine sp_all hn8 e67 ⟨fun z => ?_, fun z => ?_⟩
    · exact sp_isNet24 hn8 hv (Or.inl rfl) e67 e82 (fun z2 => by omega) (fun _ => z0 (h0 (fun w => z w.1)))
    · exact sp_isNet24 hn8 hv (Or.inr rfl) e67 e82 (fun _ w => z1 (h1 ⟨z, w⟩)) (fun w => z0 (h0 (fun u => w ⟨rfl, u.2⟩)))
  have bad : ¬ (lcmp (and64 v (xor64 (an n) (-1))) 0 = 0 ∧ Fits n (m 45) v) → wp_X11_cost v m (fun r2 m2 => -102 = r2 ∧ Rel m2) := fun w => mm m _ (fun _ _ _ => rfl) (fun z => absurd z w) (fun _ => ⟨rfl, hR⟩)
  unfold wp_X10_cost wp_X5_allows
  rw [hn]
  refine sp_full hn8 ⟨fun z => z0 (bad (fun w => z w.1)), fun z => sp_fits hn8 (fun w => z1 (z1 ?_)) (fun w => z0 (z0 (bad (fun u => w u.2))))⟩
  have hr : ∀ q : Nat, q < 64 → b64 v q = 1 → q / 8 < n ∧ q % 8 < n ∧ q / 8 ≠ q % 8 := fun q hq hb => (an_b hn8 q hq).mp (sub_b ((lcmp_0 _).mp z) q hq hb)
  refine sp_cost_C hR (fun _ _ _ => rfl) hn hr (fun m1 f1 => mm m1 _ f1 (fun _ => ?_) (fun u => absurd ⟨z, w⟩ u))
  exact sp_cost_M hR f1 hn hr (fun m2 g2 => ⟨rfl, Rel.frame (fun c i q => by rw [g2 c i (by unfold Scr at q; omega)]; exact f1 c i q) hR⟩)
