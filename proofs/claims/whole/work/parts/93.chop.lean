/-! change, both sides -/
theorem rel_det {m m' : Mem} (hR : Rel m) (hf : ∀ x i : Int, ¬ Scr x i → ¬ (x = 63 ∧ i = 0) → ¬ (x = 67 ∧ i = 30) → m' x i = m x i) (h : RDet (m' 63 0) (m' 67 30)) : Rel m' := by
  obtain ⟨m2, hm2⟩ : ∃ m2 : Mem, m2 = mset (mset m' 63 0 (m 63 0)) 67 30 (m 67 30) := ⟨_, rfl⟩
  have h2 : Rel m2 := hR.frame (fun c i hc => by
    rw [hm2, mset_at, mset_at]
    by_cases a : c = 67 ∧ i = 30
    · rw [if_pos a, a.1, a.2]
    · rw [if_neg a]
      by_cases b : c = 63 ∧ i = 0
      · rw [if_pos b, b.1, b.2]
      · rw [if_neg b]; exact hf c i hc b a)
  have e : ∀ c i : Int, ¬ (c = 63 ∧ i = 0) → ¬ (c = 67 ∧ i = 30) → m2 c i = m' c i := fun c i a b => by rw [hm2, mset_ne b, mset_ne a]
  have r : ∀ c : Int, ¬ c = 63 → ¬ c = 67 → m2 c = m' c := fun c a b => funext fun i => e c i (fun q => a q.1) (fun q => b q.1)
  have hv : ∀ c i : Int, ¬ ((c = 63 ∧ i = 0) ∨ (c = 67 ∧ i = 30)) → m' c i = m2 c i := fun c i a => (e c i (by omega) (by omega)).symm
  have hr : ∀ c : Int, (∀ i : Int, ¬ ((c = 63 ∧ i = 0) ∨ (c = 67 ∧ i = 30))) → m' c = m2 c := fun c a => funext fun i => hv c i (a i)
  obtain ⟨h1, h2, h3, h4, h5, h6, h7, h8, h9, h10, h11⟩ := h2
  clear hf hm2 e r hR
  have g1 : RLand (m' 1 0) (m' 67 0) (m' 2) (m' 68) := by rw [hv 1 0 (by omega), hv 67 0 (by omega), hr 2 (fun i => by omega), hr 68 (fun i => by omega)]; exact h1
  have g2 : RPage (m' 4 0) (m' 67 2) (m' 5) (m' 69) := by rw [hv 4 0 (by omega), hv 67 2 (by omega), hr 5 (fun i => by omega), hr 69 (fun i => by omega)]; exact h2
  have g3 : RBlk (m' 1 0) (m' 6 0) (m' 67 4) (m' 7) (m' 8) (m' 9) (m' 10) (m' 70) (m' 71) (m' 72) (m' 73) (m' 11) := by rw [hv 1 0 (by omega), hv 6 0 (by omega), hv 67 4 (by omega), hr 7 (fun i => by omega), hr 8 (fun i => by omega), hr 9 (fun i => by omega), hr 10 (fun i => by omega), hr 70 (fun i => by omega), hr 71 (fun i => by omega), hr 72 (fun i => by omega), hr 73 (fun i => by omega), hr 11 (fun i => by omega)]; exact h3
  have g4 : RTrn (m' 6 0) (m' 28 0) (m' 13 0) (m' 67 9) (m' 13 1) (m' 67 19) (m' 14) (m' 15) (m' 16) (m' 17) (m' 18) (m' 19) (m' 20) (m' 21) (m' 22) (m' 23) (m' 24) (m' 25) (m' 26) (m' 7) (m' 8) (m' 74) (m' 75) (m' 76) := by rw [hv 6 0 (by omega), hv 28 0 (by omega), hv 13 0 (by omega), hv 67 9 (by omega), hv 13 1 (by omega), hv 67 19 (by omega), hr 14 (fun i => by omega), hr 15 (fun i => by omega), hr 16 (fun i => by omega), hr 17 (fun i => by omega), hr 18 (fun i => by omega), hr 19 (fun i => by omega), hr 20 (fun i => by omega), hr 21 (fun i => by omega), hr 22 (fun i => by omega), hr 23 (fun i => by omega), hr 24 (fun i => by omega), hr 25 (fun i => by omega), hr 26 (fun i => by omega), hr 7 (fun i => by omega), hr 8 (fun i => by omega), hr 74 (fun i => by omega), hr 75 (fun i => by omega), hr 76 (fun i => by omega)]; exact h4
  have g5 : RTrf (m' 1 0) (m' 13 0) (m' 28 0) (m' 67 18) (m' 28 1) (m' 67 15) (m' 28 4) (m' 67 13) (m' 29) (m' 30) (m' 78) (m' 79) (m' 31) (m' 32) (m' 33) (m' 34) (m' 35) (m' 36) (m' 77) (m' 76) := by rw [hv 1 0 (by omega), hv 13 0 (by omega), hv 28 0 (by omega), hv 67 18 (by omega), hv 28 1 (by omega), hv 67 15 (by omega), hv 28 4 (by omega), hv 67 13 (by omega), hr 29 (fun i => by omega), hr 30 (fun i => by omega), hr 78 (fun i => by omega), hr 79 (fun i => by omega), hr 31 (fun i => by omega), hr 32 (fun i => by omega), hr 33 (fun i => by omega), hr 34 (fun i => by omega), hr 35 (fun i => by omega), hr 36 (fun i => by omega), hr 77 (fun i => by omega), hr 76 (fun i => by omega)]; exact h5
  have g6 : RRow (m' 37 0) (m' 67 20) (m' 40) (m' 80) := by rw [hv 37 0 (by omega), hv 67 20 (by omega), hr 40 (fun i => by omega), hr 80 (fun i => by omega)]; exact h6
  have g7 : RNet (m' 43 0) (m' 67 24) (m' 43 5) (m' 44) (m' 81) (m' 45) (m' 82) := by rw [hv 43 0 (by omega), hv 67 24 (by omega), hv 43 5 (by omega), hr 44 (fun i => by omega), hr 81 (fun i => by omega), hr 45 (fun i => by omega), hr 82 (fun i => by omega)]; exact h7
  have g8 : (m' 43 5) = 1 → (m' 1 0) ≤ 4 → NBr (m' 67 0) (m' 67 24) (m' 43 3) (m' 43 4) (m' 68) (m' 81) (m' 82) := by rw [hv 43 5 (by omega), hv 1 0 (by omega), hv 67 0 (by omega), hv 67 24 (by omega), hv 43 3 (by omega), hv 43 4 (by omega), hr 68 (fun i => by omega), hr 81 (fun i => by omega), hr 82 (fun i => by omega)]; exact h8
  have g9 : REmp (m' 47 0) (m' 67 25) (m' 48) (m' 83) := by rw [hv 47 0 (by omega), hv 67 25 (by omega), hr 48 (fun i => by omega), hr 83 (fun i => by omega)]; exact h9
  have g10 : RLeg (m' 59 0) (m' 67 27) (m' 60) (m' 61) (m' 84) (m' 85) := by rw [hv 59 0 (by omega), hv 67 27 (by omega), hr 60 (fun i => by omega), hr 61 (fun i => by omega), hr 84 (fun i => by omega), hr 85 (fun i => by omega)]; exact h10
  exact ⟨g1, g2, g3, g4, g5, g6, g7, g8, g9, g10, h⟩
theorem rowM_tb {n : Nat} {c : Int} {T : Nat} {K : Int} {tb tb' : Nat → Int} {fr to A : Int → Int} {x : Nat} (h : ∀ k : Nat, k < T → tb' k = tb k) : RowM n c T K tb' fr to A x ↔ RowM n c T K tb fr to A x := by
  unfold RowM Off
  constructor
  · rintro ⟨a, b⟩
    refine ⟨fun k hk => ?_, fun b' b0 b1 hb => b b' b0 b1 (fun k hk => ?_)⟩
    · rw [← h k hk]; exact a k hk
    · rw [h k hk]; exact hb k hk
  · rintro ⟨a, b⟩
    refine ⟨fun k hk => ?_, fun b' b0 b1 hb => b b' b0 b1 (fun k hk => ?_)⟩
    · rw [h k hk]; exact a k hk
    · rw [← h k hk]; exact hb k hk
theorem op_change {m : Mem} (hR : Rel m) (c w : Int) : wp_X10_change c w m (fun r m1 => wp_X11_change c w m1 (fun r2 m2 => r = r2 ∧ Rel m2)) := by
  have h3 := hR.n
  obtain ⟨b1, b2, b3, b4, b5⟩ := id hR.2.2.1
  have hd := hR.2.2.2.2.2.2.2.2.2.2
  have hd2 : m 67 30 = m 63 0 ∧ 0 ≤ m 63 0 ∧ m 63 0 ≤ 20 := hd
  obtain ⟨n, hn⟩ := Int.eq_ofNat_of_zero_le (show 0 ≤ m 1 0 by omega)
  obtain ⟨K, hK⟩ := Int.eq_ofNat_of_zero_le b2
  have fU : ¬ (0 ≤ c ∧ c < m 1 0) → wp_X11_change c w m (fun r2 m2 => -101 = r2 ∧ Rel m2) := fun q => by
    unfold wp_X11_change
    exact sp_isYard (by omega) (fun a b => absurd ⟨a, by omega⟩ q) (fun _ => n0 ⟨rfl, hR⟩)
  have fO : 0 ≤ c ∧ c < m 1 0 → ¬ (w = 0 ∨ (10 ≤ w ∧ w ≤ 29)) → wp_X11_change c w m (fun r2 m2 => -102 = r2 ∧ Rel m2) := fun h q => by
    unfold wp_X11_change
    exact sp_isYard (by omega) (fun a b => n1 ⟨fun z => absurd (Or.inl z) q, fun _ => sp_in (fun a b => absurd (Or.inr ⟨a, b⟩) q) (fun _ => n0 ⟨rfl, hR⟩)⟩) (fun z => absurd ⟨h.1, by omega⟩ z)
  have main : 0 ≤ c ∧ c < n → (w = 0 ∨ (10 ≤ w ∧ w ≤ 29)) → wp_X10_change_33 c w m (fun r m1 => wp_X11_change c w m1 (fun r2 m2 => r = r2 ∧ Rel m2)) := by
    intro hc hw
    unfold wp_X10_change_33
    refine ⟨fun h20 => ?_, fun h20 => ?_⟩
    · exact sp_refC hR hn hK hc hw (fun _ _ _ _ => rfl) (fun _ m2 f e => ⟨rfl, rel_det hR (fun x i a1 a2 _ => f x i a1 a2) (by rw [e, f 67 30 (by unfold Scr; omega) (by omega)]; exact hd)⟩) (fun _ z => absurd (by omega) z)
    · refine sp_gatherC (K := K) (by omega) hK (fun h4 R hG => n1 (eqm ?_)) (fun h4 R z => n0 ?_)
      · have hT := tn_of hR hn hK hc h4 hG
        have s : ∀ x i : Int, ¬ x = 66 → ¬ x = 63 → mset (mset (mrow m 66 R) 63 5 (gac (m 8) c K : Nat)) 63 0 (w32 (mset (mrow m 66 R) 63 5 (gac (m 8) c K : Nat) 63 0 + 1)) x i = m x i := fun x i a1 a2 => by rw [mset_ne (by omega), mset_ne (by omega), mrow_ne a1]
        have s1 : ∀ x : Int, ¬ x = 66 → ¬ x = 63 → mset (mset (mrow m 66 R) 63 5 (gac (m 8) c K : Nat)) 63 0 (w32 (mset (mrow m 66 R) 63 5 (gac (m 8) c K : Nat) 63 0 + 1)) x = m x := fun x a1 a2 => funext fun i => s x i a1 a2
        have e630 : mset (mset (mrow m 66 R) 63 5 (gac (m 8) c K : Nat)) 63 0 (w32 (mset (mrow m 66 R) 63 5 (gac (m 8) c K : Nat) 63 0 + 1)) 63 0 = m 63 0 + 1 := by
          rw [mset_same, mset_ne (by omega), mrow_ne (by decide), w32_i (by omega)]
        have e635 : mset (mset (mrow m 66 R) 63 5 (gac (m 8) c K : Nat)) 63 0 (w32 (mset (mrow m 66 R) 63 5 (gac (m 8) c K : Nat) 63 0 + 1)) 63 5 = (gac (m 8) c K : Nat) := by
          rw [mset_ne (by omega), mset_same]
        have e66 : mset (mset (mrow m 66 R) 63 5 (gac (m 8) c K : Nat)) 63 0 (w32 (mset (mrow m 66 R) 63 5 (gac (m 8) c K : Nat) 63 0 + 1)) 66 = R := by
          rw [mset_r (by decide), mset_r (by decide), mrow_s]
        have f63 : ∀ x i : Int, x = 63 → ¬ Scr x i → ¬ (x = 63 ∧ i = 0) → mset (mset (mrow m 66 R) 63 5 (gac (m 8) c K : Nat)) 63 0 (w32 (mset (mrow m 66 R) 63 5 (gac (m 8) c K : Nat) 63 0 + 1)) x i = m x i := fun x i a0 a1 a2 => by
          have g1 : ¬ (x = 63 ∧ i = 5) := fun q => a1 (by unfold Scr; omega)
          rw [mset_ne a2, mset_ne g1, mrow_ne (by omega)]
        generalize mset (mset (mrow m 66 R) 63 5 (gac (m 8) c K : Nat)) 63 0 (w32 (mset (mrow m 66 R) 63 5 (gac (m 8) c K : Nat) 63 0 + 1)) = m3 at s s1 e630 e635 e66 f63 ⊢
        rw [s1 1 (by decide) (by decide), hn]
        refine sp_seekC (K := K) (tb := fun k => R k) (by rw [s1 7 (by decide) (by decide), s1 8 (by decide) (by decide)]; exact hT) e635 (fun k hk => by rw [e66]) (by rw [s1 11 (by decide) (by decide)]; exact ch_rel hR hn hK) (fun m4 b fK hB hr => ?_)
        rw [s1 7 (by decide) (by decide), s1 8 (by decide) (by decide), s1 11 (by decide) (by decide), s1 44 (by decide) (by decide)] at hB
        rw [s1 8 (by decide) (by decide)] at hr
        have f4 : ∀ x i : Int, ¬ Scr x i → ¬ (x = 63 ∧ i = 0) → m4 x i = m x i := fun x i a1 a2 => by
          have g1 : ¬ (x = 12 ∨ (x = 6 ∧ i = 7) ∨ (x = 63 ∧ i = 1) ∨ x = 64 ∨ x = 65) := fun q => a1 (by unfold Scr; omega)
          rw [fK x i g1]
          by_cases g2 : x = 63
          · exact f63 x i g2 a1 a2
          · exact s x i (fun q => a1 (by unfold Scr; omega)) g2
        have e4 : m4 63 0 = m 63 0 + 1 := by rw [fK 63 0 (by omega)]; exact e630
        have e46 : m4 6 0 = K := by rw [f4 6 0 (by unfold Scr; omega) (by omega)]; exact hK
        have fin : ∀ r : Int, r = (if w = 0 ∨ m4 63 1 = -1 then m4 63 1 else if w - 10 < K then m4 64 (w - 10) else -1) → wp_X11_change c w m4 (fun r2 m2 => r = r2 ∧ Rel m2) := by
          intro r hrr
          refine sp_refC hR hn hK hc hw f4 (fun z => by omega) (fun _ hne R' hG' m5 best b' f5 e5 e30 hB' hr' => ?_)
          have hT' := tn_of hR hn hK hc h4 hG'
          have htb : ∀ k : Nat, k < gac (m 8) c K → (fun k : Nat => R' k) k = (fun k : Nat => R k) k := fun k hk => gi_u hG' hG k hk
          have hRM : ∀ (A : Int → Int) (x : Nat), RowM n c (gac (m 8) c K) K (fun k => R' k) (m 7) (m 8) A x ↔ RowM n c (gac (m 8) c K) K (fun k => R k) (m 7) (m 8) A x := fun A x => rowM_tb htb
          have key := bm_eq (R := CRl n c (gac (m 8) c K) (fun k => R k) (m 7)) (P := fun x => x < (n + 1) ^ (gac (m 8) c K) ∧ QC n c (gac (m 8) c K) K (fun k => R k) (m 7) (m 8) (m 11) (m 44) x) (P' := fun x => x < (n - 1) ^ (gac (m 8) c K) ∧ QM n c (gac (m 8) c K) K (fun k => R' k) (m 7) (m 8) (m 11) (m 44) x)
            (fun x' hx' => by
              obtain ⟨x, x1, x2⟩ := crl_1 hT hx'.1
              obtain ⟨A, a1, a2⟩ := hx'.2
              exact ⟨x, ⟨x1.2.1, x2, A, (crl_r hT x1).mp ((hRM A x').mp a1), a2⟩, x1⟩)
            (fun x hx => by
              obtain ⟨x', x1⟩ := crl_2 hT hx.1 hx.2.1
              obtain ⟨-, A, a1, a2⟩ := hx.2
              exact ⟨x', ⟨x1.1, A, (hRM A x').mpr ((crl_r hT x1).mpr a1), a2⟩, x1⟩)
            (fun x' x h => crl_mv h _ (Nat.le_refl _))
            (fun x' x y' y h g hle => by
              have := crl_c hT h g
              omega) hB hB'
          refine ⟨?_, rel_det hR f5 ⟨by rw [e30, e5, e4], by rw [e5, e4]; omega, by rw [e5, e4]; omega⟩⟩
          rw [hrr, key.1]
          by_cases z : w = 0 ∨ best = -1
          · rw [if_pos z, if_pos z]
          · rw [if_neg z, if_neg z]
            by_cases y : w - 10 < K
            · rw [if_pos y, if_pos y]
              have hne1 : ¬ m4 63 1 = -1 := by rw [key.1]; exact fun q => z (Or.inr q)
              have c1 := hr hne1
              have c2 := (crl_r hT (key.2 hne1)).mp ((hRM _ _).mp (hr' (fun q => z (Or.inr q))))
              exact rowC_u c1 c2 (w - 10) (by omega) y
            · rw [if_neg y, if_neg y]
        refine ⟨fun q => fin _ (by rw [if_pos (Or.inl q)]), fun q => ⟨fun q2 => ?_, fun q2 => fin _ (by rw [if_pos (Or.inr q2)])⟩⟩
        rw [show w32 (w - 10) = w - 10 from w32_i (by omega)]
        refine sp_X0_has (fun a b => z1 ⟨by omega, fin _ ?_⟩) (fun q3 => z0 (fin _ ?_))
        · rw [if_neg (by omega), if_pos (by omega)]
        · rw [if_neg (by omega), if_neg (by omega)]
      · exact sp_refC hR hn hK hc hw (fun x i a1 a2 => by
          have g1 : ¬ (x = 63 ∧ i = 5) := fun q => a1 (by unfold Scr; omega)
          have g2 : ¬ x = 66 := fun q => a1 (by unfold Scr; omega)
          rw [mset_ne g1, mrow_ne g2]) (fun _ m2 f e => ⟨rfl, rel_det hR (fun x i a1 a2 _ => f x i a1 a2) (by rw [e, f 67 30 (by unfold Scr; omega) (by omega), mset_ne (by omega), mrow_ne (by decide)]; exact hd)⟩) (fun z => by omega)
  unfold wp_X10_change
  refine sp_X3_has (fun a b => n1 ⟨fun q => main (by omega) (Or.inl q), fun q => ⟨fun q2 => fO ⟨a, b⟩ (by omega), fun q2 => ⟨fun q3 => main (by omega) (Or.inr ⟨by omega, q3⟩), fun q3 => fO ⟨a, b⟩ (by omega)⟩⟩⟩) (fun q => n0 (fU q))
