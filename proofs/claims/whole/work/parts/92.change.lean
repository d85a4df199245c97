/-! change -/
theorem tn_of {m : Mem} (hR : Rel m) {n K : Nat} (hn : m 1 0 = n) (hK : m 6 0 = K) {c : Int} (hc : 0 ≤ c ∧ c < n) {R : Int → Int} (h4 : gac (m 8) c K ≤ 4) (hG : GI (m 8) c K R) : Tn n c (gac (m 8) c K) K (fun k => R k) (m 7) (m 8) := by
  have h3 := hR.n
  obtain ⟨b1, b2, b3, b4, b5⟩ := hR.2.2.1
  have px : ∀ k : Nat, k < gac (m 8) c K → ∃ b : Nat, b < K ∧ m 8 b = c ∧ gac (m 8) c b = k ∧ R k = b := fun k hk => by
    obtain ⟨b, x1, x2, x3⟩ := gac_x (m 8) c K k hk
    have := hG b x1 x2
    rw [x3] at this
    exact ⟨b, x1, x2, x3, this⟩
  refine ⟨by omega, hc, h4, by omega, fun k hk => ?_, fun k l hk hl e => ?_, fun b x0 x1 => ?_, fun k hk => ?_⟩
  · obtain ⟨b, x1, x2, x3, x4⟩ := px k hk
    show 0 ≤ R k ∧ R k < K
    rw [x4]; omega
  · obtain ⟨b, x1, x2, x3, x4⟩ := px k hk
    obtain ⟨b', y1, y2, y3, y4⟩ := px l hl
    have e' : R k = R l := e
    rw [x4, y4] at e'
    have : b = b' := by omega
    rw [← x3, ← y3, this]
  · have := (b4 b x0 (by omega)).2
    exact ⟨⟨this.1, by omega⟩, ⟨this.2.2.1, by omega⟩, this.2.2.2.2.1⟩
  · obtain ⟨b, x1, x2, x3, x4⟩ := px k hk
    show m 8 (R k) = c
    rw [x4]; exact x2
theorem gi_u {to : Int → Int} {c : Int} {K : Nat} {R R' : Int → Int} (h : GI to c K R) (h' : GI to c K R') (k : Nat) (hk : k < gac to c K) : R k = R' k := by
  obtain ⟨b, x1, x2, x3⟩ := gac_x to c K k hk
  have a := h b x1 x2
  have a' := h' b x1 x2
  rw [x3] at a a'
  rw [a, a']
theorem ch_rel {m : Mem} (hR : Rel m) {n K : Nat} (hn : m 1 0 = n) (hK : m 6 0 = K) : ∀ y d : Int, 0 ≤ y → y < n → 0 ≤ d → d < n → m 11 (8 * y + d) = -1 ∨ (0 ≤ m 11 (8 * y + d) ∧ m 11 (8 * y + d) < K) := by
  intro y d y0 y1 d0 d1
  have h3 := hR.n
  obtain ⟨b1, b2, b3, b4, b5⟩ := hR.2.2.1
  rw [b5 y d y0 (by omega) d0 (by omega)]
  have := pick_r (m 70) (m 72) (m 73) y d (m 6 0).toNat
  rw [hK] at this ⊢
  exact this
/-- what the reference makes of a state that is the class's end -/
theorem sp_refC {m m1 : Mem} (hR : Rel m) {n K : Nat} (hn : m 1 0 = n) (hK : m 6 0 = K) {c w : Int} (hc : 0 ≤ c ∧ c < n) (hw : w = 0 ∨ (10 ≤ w ∧ w ≤ 29)) (hf : ∀ x i : Int, ¬ Scr x i → ¬ (x = 63 ∧ i = 0) → m1 x i = m x i) {post : Int → Mem → Prop}
    (HS : (4 < gac (m 8) c K ∨ m 63 0 = 20) → ∀ m2 : Mem, (∀ x i : Int, ¬ Scr x i → ¬ (x = 63 ∧ i = 0) → m2 x i = m x i) → m2 63 0 = m1 63 0 → post (-103) m2)
    (HO : gac (m 8) c K ≤ 4 → ¬ m 63 0 = 20 → ∀ R : Int → Int, GI (m 8) c K R → ∀ (m2 : Mem) (best : Int) (b : Nat), (∀ x i : Int, ¬ Scr x i → ¬ (x = 63 ∧ i = 0) → ¬ (x = 67 ∧ i = 30) → m2 x i = m x i) → m2 63 0 = m1 63 0 → m2 67 30 = m 63 0 + 1 → Bm (fun x => x < (n - 1) ^ (gac (m 8) c K) ∧ QM n c (gac (m 8) c K) K (fun k => R k) (m 7) (m 8) (m 11) (m 44) x) (fun x => cnz (n - 1) (gac (m 8) c K) x (gac (m 8) c K)) best b → (¬ best = -1 → RowM n c (gac (m 8) c K) K (fun k => R k) (m 7) (m 8) (m2 105) b) → post (if w = 0 ∨ best = -1 then best else if w - 10 < K then m2 105 (w - 10) else -1) m2) : wp_X11_change c w m1 post := by
  have h3 := hR.n
  obtain ⟨b1, b2, b3, b4, b5⟩ := id hR.2.2.1
  have ht := hR.2.2.2.2.2.2.1
  have hd := hR.2.2.2.2.2.2.2.2.2.2
  have hd2 : 0 ≤ m 63 0 ∧ m 63 0 ≤ 20 := ⟨hd.2.1, hd.2.2⟩
  have e67 : ∀ i : Int, i < 32 → m1 67 i = m 67 i := fun i hi => hf 67 i (by unfold Scr; omega) (by omega)
  have q0 : m1 67 0 = n := by rw [e67 0 (by decide)]; omega
  have q4 : m1 67 4 = K := by rw [e67 4 (by decide)]; omega
  have q30 : m1 67 30 = m 63 0 := by rw [e67 30 (by decide)]; exact hd.1
  have r71 : ∀ b : Nat, b < K → m1 71 b = m 8 b := fun b hb => by
    rw [hf 71 b (by unfold Scr; omega) (by omega)]; exact (b4 b (by omega) (by omega)).1.2.1
  have frG : ∀ (R : Int → Int) (z : Int), ∀ x i : Int, ¬ Scr x i → ¬ (x = 63 ∧ i = 0) → mset (mrow m1 104 R) 67 61 z x i = m x i := fun R z x i hx hx2 => by
    have g1 : ¬ (x = 67 ∧ i = 61) := fun q => hx (by unfold Scr; omega)
    have g2 : ¬ x = 104 := fun q => hx (by unfold Scr; omega)
    rw [mset_ne g1, mrow_ne g2]; exact hf x i hx hx2
  have g63 : ∀ (R : Int → Int) (z : Int), mset (mrow m1 104 R) 67 61 z 63 0 = m1 63 0 := fun R z => by rw [mset_ne (by omega), mrow_ne (by decide)]
  have g30 : ∀ (R : Int → Int) (z : Int), mset (mrow m1 104 R) 67 61 z 67 30 = m 63 0 := fun R z => by rw [mset_ne (by omega), mrow_ne (by decide)]; exact q30
  have run : ∀ R : Int → Int, gac (m 8) c K ≤ 4 → GI (m 8) c K R → ¬ m 63 0 = 20 → wp_X11_seekChange c (mset (mset (mrow m1 104 R) 67 61 (gac (m 8) c K : Nat)) 67 30 (m 63 0 + 1)) (fun r136 m136 => ((r136 = (-1) → (post r136 m136)) ∧ (¬ r136 = (-1) → (((¬ w = 0 → (((m136 67 4 ≤ w32 (w - 10) → (post (-1) m136)) ∧ (¬ m136 67 4 ≤ w32 (w - 10) → ((0 ≤ w32 (w - 10) ∧ w32 (w - 10) < 20) ∧ (post (m136 105 (w32 (w - 10))) m136)))))) ∧ (w = 0 → (post r136 m136))))))) := by
    intro R h4 hG hne
    have hT := tn_of hR hn hK hc h4 hG
    have f2 : ∀ x i : Int, ¬ Scr x i → ¬ (x = 63 ∧ i = 0) → ¬ (x = 67 ∧ i = 30) → mset (mset (mrow m1 104 R) 67 61 (gac (m 8) c K : Nat)) 67 30 (m 63 0 + 1) x i = m x i := fun x i a1 a2 a3 => by rw [mset_ne a3]; exact frG R _ x i a1 a2
    have s : ∀ x i : Int, ¬ x = 104 → ¬ x = 67 → mset (mset (mrow m1 104 R) 67 61 (gac (m 8) c K : Nat)) 67 30 (m 63 0 + 1) x i = m1 x i := fun x i a1 a2 => by rw [mset_ne (by omega), mset_ne (by omega), mrow_ne a1]
    have t70 : mset (mset (mrow m1 104 R) 67 61 (gac (m 8) c K : Nat)) 67 30 (m 63 0 + 1) 70 = m 70 := funext fun i => by rw [s 70 i (by decide) (by decide), hf 70 i (by unfold Scr; omega) (by omega)]
    have t72 : mset (mset (mrow m1 104 R) 67 61 (gac (m 8) c K : Nat)) 67 30 (m 63 0 + 1) 72 = m 72 := funext fun i => by rw [s 72 i (by decide) (by decide), hf 72 i (by unfold Scr; omega) (by omega)]
    have t73 : mset (mset (mrow m1 104 R) 67 61 (gac (m 8) c K : Nat)) 67 30 (m 63 0 + 1) 73 = m 73 := funext fun i => by rw [s 73 i (by decide) (by decide), hf 73 i (by unfold Scr; omega) (by omega)]
    have t4 : mset (mset (mrow m1 104 R) 67 61 (gac (m 8) c K : Nat)) 67 30 (m 63 0 + 1) 67 4 = K := by rw [mset_ne (by omega), mset_ne (by omega), mrow_ne (by decide)]; exact q4
    refine sp_seekM hT (ch_rel hR hn hK) (ld := m 44) (by rw [mset_ne (by omega), mset_ne (by omega), mrow_ne (by decide)]; exact q0) t4 (by rw [mset_ne (by omega), mset_same]) (fun k hk => by rw [mset_r (by decide), mset_r (by decide), mrow_s]) (fun b x0 x1 => by rw [t70]; exact (b4 b x0 (by omega)).1.1) (fun b x0 x1 => by rw [s 71 b (by decide) (by decide), hf 71 b (by unfold Scr; omega) (by omega)]; exact (b4 b x0 (by omega)).1.2.1) (fun y d y0 y1 d0 d1 => by rw [s 81 _ (by decide) (by decide), hf 81 _ (by unfold Scr; omega) (by omega)]; exact (ht.2.2.2.2.1 y d y0 (by omega) d0 (by omega)).1) (fun y d y0 y1 d0 d1 => by rw [t70, t72, t73, t4, b5 y d y0 (by omega) d0 (by omega), hK]) (fun m2 best b fL hB hr => ?_)
    have k4 : m2 67 4 = K := by rw [fL 67 4 (by omega)]; exact t4
    have k63 : m2 63 0 = m1 63 0 := by rw [fL 63 0 (by omega), s 63 0 (by decide) (by decide)]
    have k30 : m2 67 30 = m 63 0 + 1 := by rw [fL 67 30 (by omega), mset_same]
    have kf : ∀ x i : Int, ¬ Scr x i → ¬ (x = 63 ∧ i = 0) → ¬ (x = 67 ∧ i = 30) → m2 x i = m x i := fun x i a1 a2 a3 => by rw [fL x i (fun q => a1 (by unfold Scr; omega))]; exact f2 x i a1 a2 a3
    have fin := HO h4 hne R hG m2 best b kf k63 k30 hB hr
    rw [k4, show w32 (w - 10) = w - 10 from w32_i (by omega)]
    refine ⟨fun q => ?_, fun q => ⟨fun q2 => ⟨fun q3 => ?_, fun q3 => ⟨by omega, ?_⟩⟩, fun q2 => ?_⟩⟩
    · rw [if_pos (Or.inr q)] at fin; exact fin
    · rw [if_neg (by omega), if_neg (by omega)] at fin; exact fin
    · rw [if_neg (by omega), if_pos (by omega)] at fin; exact fin
    · rw [if_pos (Or.inl q2)] at fin; exact fin
  have body : ∀ m2 : Mem, m2 = mset m1 67 61 0 → (∃ n_6 : Nat, wp_X11_change_39 (fun v1_5 v2_5 v3_5 m_5 => ((¬ v3_5 = 0 → (post (-103) m_5)) ∧ (v3_5 = 0 → (((¬ m_5 67 30 = 20 → (∀ m131 : Mem, m131 = mset m_5 67 30 (w32 (m_5 67 30 + 1)) → (wp_X11_seekChange v1_5 m131 (fun r136 m136 => ((r136 = (-1) → (post r136 m136)) ∧ (¬ r136 = (-1) → (((¬ v2_5 = 0 → (((m136 67 4 ≤ w32 (v2_5 - 10) → (post (-1) m136)) ∧ (¬ m136 67 4 ≤ w32 (v2_5 - 10) → ((0 ≤ w32 (v2_5 - 10) ∧ w32 (v2_5 - 10) < 20) ∧ (post (m136 105 (w32 (v2_5 - 10))) m136)))))) ∧ (v2_5 = 0 → (post r136 m136)))))))))) ∧ (m_5 67 30 = 20 → (post (-103) m_5))))))) post n_6 c w 0 0 m2) := by
    refine sp_gatherM (K := K) (to := m 8) (by omega) q4 r71 (fun h4 R hG => nf rfl ?_) (fun h4 R z => nt (by decide) (HS (Or.inl h4) _ (frG R z) (g63 R z)))
    rw [g30, show w32 (m 63 0 + 1) = m 63 0 + 1 from w32_i (by omega)]
    exact ⟨fun q => eqm (run R h4 hG q), fun q => HS (Or.inr q) _ (frG R _) (g63 R _)⟩
  unfold wp_X11_change
  refine sp_isYard (by omega) (fun _ _ => n1 ⟨fun _ => body, fun q => sp_in (fun _ _ => n1 body) (fun z => by omega)⟩) (fun z => by omega)
