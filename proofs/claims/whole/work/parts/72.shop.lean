/-! share, promise -/
theorem td24 {x : Int} (h0 : 0 ≤ x) (h1 : x ≤ 2000) : w32 (Int.tdiv x 24) = x / 24 := by
  rw [Int.tdiv_eq_ediv_of_nonneg h0, w32_i (by omega)]
def mss (x : Int) : Nat := if x / 24 < 5 then (x / 24).toNat else 5
theorem mss_r (x : Int) : mss x ≤ 5 := by
  unfold mss
  by_cases h : x / 24 < 5
  · rw [if_pos h]; omega
  · rw [if_neg h]; omega
theorem mss_c {x : Int} (h : 0 ≤ x) : (if x / 24 < 5 then x / 24 else 5) = ((mss x : Nat) : Int) := by
  unfold mss
  by_cases h5 : x / 24 < 5
  · rw [if_pos h5, if_pos h5]; omega
  · rw [if_neg h5, if_neg h5]; rfl
theorem shG_p {t : Int → Int} {K v : Nat} (hK : K ≤ 5) (hv : v ≤ 5) : 0 < shG t K v := by
  have := shD_r hK hv
  exact Nat.gcd_pos_of_pos_left _ (by omega)
theorem sp_sh70 {t : Int → Int} {K v : Nat} (hK : K ≤ 5) (hv : v ≤ 5) (ht : ∀ i : Nat, i < K → 0 ≤ t i ∧ t i ≤ 9) {post : Int → Mem → Prop} {w : Int} {m : Mem} (e58 : m 67 58 = shN t K v) (e59 : m 67 59 = shD K v) (H : post (if w = 0 then w64 (Int.tdiv (shN t K v) (shG t K v : Nat)) else w64 (Int.tdiv (shD K v) (shG t K v : Nat))) m) : ∃ n : Nat, wp_X11_share_70 (fun v2_5 v4_5 m_5 => ((¬ v2_5 = 0 → (¬ v4_5 = 0 ∧ (post (w64 (Int.tdiv (m_5 67 59) v4_5)) m_5))) ∧ (v2_5 = 0 → (¬ v4_5 = 0 ∧ (post (w64 (Int.tdiv (m_5 67 58) v4_5)) m_5))))) post n w (m 67 58) (m 67 59) m := by
  have hN := shN_r hK hv ht
  have hD := shD_r hK hv
  have hG := shG_p (t := t) hK hv
  have e4 : m 67 58 = ((shN t K v).toNat : Nat) := by omega
  have e5 : m 67 59 = ((shD K v).toNat : Nat) := by omega
  have eG : ((Nat.gcd (shN t K v).toNat (shD K v).toNat : Nat) : Int) = (shG t K v : Nat) := by unfold shG; rw [Nat.gcd_comm]
  have := @sp_70 (fun v2_5 v4_5 m_5 => ((¬ v2_5 = 0 → (¬ v4_5 = 0 ∧ (post (w64 (Int.tdiv (m_5 67 59) v4_5)) m_5))) ∧ (v2_5 = 0 → (¬ v4_5 = 0 ∧ (post (w64 (Int.tdiv (m_5 67 58) v4_5)) m_5))))) post w m (shD K v).toNat (shN t K v).toNat (by
    rw [eG, e58, e59]
    by_cases hw : w = 0
    · rw [if_pos hw] at H
      exact nf hw ⟨by omega, H⟩
    · rw [if_neg hw] at H
      exact nt hw ⟨by omega, H⟩)
  rw [← e4, ← e5] at this
  exact this
theorem sp_shareMM {K : Nat} (hK : K ≤ 5) {t : Int → Int} {g : Nat → Int} {m : Mem} {post : Int → Mem → Prop} {L w : Int} (hL : 0 ≤ L ∧ L ≤ 999 ∧ 0 ≤ w ∧ w ≤ 1) (h0 : m 67 27 = K) (hb : ∀ i : Nat, i < K → m 84 i = g i ∧ 0 ≤ g i ∧ g i ≤ 99) (ht : ∀ i : Nat, i < K → m 85 i = t i ∧ 0 ≤ t i ∧ t i ≤ 9) (H0 : ¬ 0 ≤ L - sumg g K → post w m) (H1 : 0 ≤ L - sumg g K → ∀ m' : Mem, (∀ c i : Int, ¬ (c = 102 ∨ (c = 67 ∧ (i = 58 ∨ i = 59))) → m' c i = m c i) → post (if w = 0 then w64 (Int.tdiv (shN t K (mss (L - sumg g K))) (shG t K (mss (L - sumg g K)) : Nat)) else w64 (Int.tdiv (shD K (mss (L - sumg g K))) (shG t K (mss (L - sumg g K)) : Nat))) m') : wp_X11_share L w m post := by
  unfold wp_X11_share
  refine sp_in (fun _ _ => z1 (sp_in (fun _ _ => n1 ?_) (fun q => absurd ⟨hL.2.2.1, hL.2.2.2⟩ q))) (fun q => absurd ⟨hL.1, hL.2.1⟩ q)
  refine sp_hoursM hK h0 hb (eqm ?_)
  have hs := sumg_r (g := g) K (fun j hj => (hb j hj).2)
  generalize sumg g K = S at hs H0 H1 ⊢
  rw [w32_i (by omega)]
  by_cases h : 0 ≤ L - S
  · have hm := mss_c h
    have hv := mss_r (L - S)
    have H1 := H1 h
    generalize mss (L - S) = v at hm hv H1 ⊢
    rw [td24 h (by omega)]
    refine bt h ⟨fun h5 => ?_, fun h5 => ?_⟩
    · rw [if_neg (by omega)] at hm
      rw [hm]
      refine sp_shareM hK hv h0 ht (fun m' f a1 a2 => eqm (eqm (sp_sh70 hK hv (fun i hi => (ht i hi).2) a1 a2 (H1 m' f))))
    · rw [if_pos (by omega)] at hm
      rw [hm]
      refine sp_shareM hK hv h0 ht (fun m' f a1 a2 => eqm (eqm (sp_sh70 hK hv (fun i hi => (ht i hi).2) a1 a2 (H1 m' f))))
  · exact bf h (H0 h)
theorem op_share {m : Mem} (hR : Rel m) (L w : Int) : wp_X10_share L w m (fun r m1 => wp_X11_share L w m1 (fun r2 m2 => r = r2 ∧ Rel m2)) := by
  obtain ⟨e, k1, k2, k3⟩ := hR.2.2.2.2.2.2.2.2.2.1
  obtain ⟨K, hK⟩ : ∃ K : Nat, m 59 0 = K := ⟨(m 59 0).toNat, by omega⟩
  have hK5 : K ≤ 5 := by omega
  by_cases hL : 0 ≤ L ∧ L ≤ 999 ∧ 0 ≤ w ∧ w ≤ 1
  · unfold wp_X10_share
    refine bf (by omega) (bf (by omega) (bf (by omega) (bt (by omega) ?_)))
    unfold wp_X4_shareWithin
    have hb : ∀ i : Nat, i < K → 0 ≤ m 60 i ∧ m 60 i ≤ 99 := fun i hi => by have := k3 i (by omega) (by omega); omega
    have ht : ∀ i : Nat, i < K → 0 ≤ m 61 i ∧ m 61 i ≤ 9 := fun i hi => by have := k3 i (by omega) (by omega); omega
    refine sp_hoursC hK5 hK hb (eqm ?_)
    have hs := sumg_r (g := fun i => m 60 i) K hb
    have eM : ∀ m1 : Mem, (∀ c i : Int, ¬ Scr c i → m1 c i = m c i) → m1 67 27 = K ∧ (∀ i : Nat, i < K → m1 84 i = m 60 i ∧ 0 ≤ m 60 i ∧ m 60 i ≤ 99) ∧ (∀ i : Nat, i < K → m1 85 i = m 61 i ∧ 0 ≤ m 61 i ∧ m 61 i ≤ 9) := by
      intro m1 f
      refine ⟨by rw [f 67 27 (by unfold Scr; omega)]; omega, fun i hi => ?_, fun i hi => ?_⟩
      · rw [f 84 i (by unfold Scr; omega)]; exact ⟨(k3 i (by omega) (by omega)).1, hb i hi⟩
      · rw [f 85 i (by unfold Scr; omega)]; exact ⟨(k3 i (by omega) (by omega)).2.1, ht i hi⟩
    rw [w32_i (by omega)]
    by_cases h : 0 ≤ L - sumg (fun i => m 60 i) K
    · rw [td24 h (by omega), mss_c h]
      refine bt h (sp_shareC hK5 (mss_r _) hK ht (fun m1 f a1 a2 => ?_))
      have f1 : ∀ c i : Int, ¬ Scr c i → m1 c i = m c i := fun c i hc => f c i (fun q => hc (by unfold Scr; omega))
      obtain ⟨e0, e1, e2⟩ := eM m1 f1
      have fin : wp_X11_share L w m1 (fun r2 m2 => (if w = 0 then m1 59 1 else m1 59 2) = r2 ∧ Rel m2) := by
        refine sp_shareMM hK5 (g := fun i => m 60 i) (t := m 61) hL e0 e1 e2 (fun q => absurd h q) (fun _ m2 f2 => ⟨by rw [a1, a2], ?_⟩)
        refine hR.frame (fun c i hc => ?_)
        rw [f2 c i (fun q => hc (by unfold Scr; omega)), f1 c i hc]
      by_cases hw : w = 0
      · rw [if_pos hw] at fin; exact nf hw fin
      · rw [if_neg hw] at fin; exact nt hw fin
    · refine bf h (eqm (eqm ?_))
      have f1 : ∀ c i : Int, ¬ Scr c i → mset (mset m 59 1 0) 59 2 1 c i = m c i := fun c i hc => by
        rw [mset_ne (fun q => hc (by unfold Scr; omega)), mset_ne (fun q => hc (by unfold Scr; omega))]
      obtain ⟨e0, e1, e2⟩ := eM _ f1
      have fin : ∀ x : Int, x = w → wp_X11_share L w (mset (mset m 59 1 0) 59 2 1) (fun r2 m2 => x = r2 ∧ Rel m2) := by
        intro x hx
        refine sp_shareMM hK5 (g := fun i => m 60 i) (t := m 61) hL e0 e1 e2 (fun _ => ⟨hx, hR.frame f1⟩) (fun q => absurd q h)
      refine ⟨fun hw => fin _ ?_, fun hw => fin _ ?_⟩
      · rw [mset_same]; omega
      · rw [mset_ne (by omega), mset_same]; omega
  · have fin : wp_X11_share L w m (fun r2 m2 => -102 = r2 ∧ Rel m2) := by
      unfold wp_X11_share
      refine sp_in (fun _ _ => z1 (sp_in (fun _ _ => absurd ⟨by omega, by omega, by omega, by omega⟩ hL) (fun q => n0 ⟨rfl, hR⟩))) (fun q => z0 ⟨rfl, hR⟩)
    unfold wp_X10_share
    exact ⟨fun _ => fin, fun _ => ⟨fun _ => fin, fun _ => ⟨fun _ => fin, fun _ => ⟨fun _ => absurd ⟨by omega, by omega, by omega, by omega⟩ hL, fun _ => fin⟩⟩⟩⟩
