/-! least: the class's sendings, one after another -/
def FrG (m0 m : Mem) : Prop := ∀ x i : Int, ¬ (x = 51 ∨ x = 52 ∨ (54 ≤ x ∧ x ≤ 58)) → m x i = m0 x i
theorem frg_op {m0 m : Mem} (h : ∀ i : Int, m 53 i = m0 53 i) : opC m = opC m0 ∧ cC53 m = cC53 m0 := by
  have e : m 53 = m0 53 := funext h
  unfold opC cC53
  rw [e]
  exact ⟨rfl, rfl⟩
theorem emd_g {m0 m : Mem} {G T : Nat} (hf : FrG m0 m) (h : EmD m0 G T) : EmD m G T := by
  have e53 : m 53 = m0 53 := funext fun i => hf 53 i (by decide)
  unfold EmD opC cC53 at h ⊢
  rw [hf 47 2 (by decide), hf 47 3 (by decide), e53]
  exact h
theorem cost_b {G T : Nat} (hG : G ≤ 24) {op : Nat → Nat → Prop} {c : Nat → Nat → Int} {s dm a w : Nat → Int} {f : Nat → Nat → Int} (hO : OpOk G T op c s) (hF : FLw G T op s dm a w f) (hs : ∀ g : Nat, g < G → s g ≤ 50) : 0 ≤ cstF c f G T ∧ cstF c f G T ≤ 1200000 := by
  have tm : ∀ g t : Nat, g < G → t < T → 0 ≤ c g t * f g t ∧ c g t * f g t ≤ 1000 * f g t := fun g t hg ht => by
    obtain ⟨q1, q2⟩ := hF.2.2 g t hg ht
    by_cases z : f g t = 0
    · rw [z, Int.mul_zero, Int.mul_zero]; exact ⟨Int.le_refl _, Int.le_refl _⟩
    · have h1 := hO g t hg ht (q2 (by omega))
      exact ⟨Int.mul_nonneg h1.1 q1, Int.mul_le_mul_of_nonneg_right h1.2.1 q1⟩
  have h1 := sumg_b (g := fun g => sumg (fun t => c g t * f g t) T) (B := 50000) G (fun g hg => by
    refine ⟨sumg_n T (fun t ht => (tm g t hg ht).1), ?_⟩
    have h2 : sumg (fun t => c g t * f g t) T ≤ sumg (fun t => 1000 * f g t) T := sumg_le T (fun t ht => (tm g t hg ht).2)
    rw [sumg_mul] at h2
    have h3 : 0 ≤ a g ∧ a g + sumg (f g) T = s g := hF.1 g hg
    have h4 := hs g hg
    show sumg (fun t => c g t * f g t) T ≤ (50000 : Int)
    omega)
  unfold cstF
  omega
theorem mul_c {a b : Int} (ha : 0 < a ∧ a ≤ 50) (hb : 0 ≤ b ∧ b ≤ 1000000) : 0 ≤ a * b ∧ a * b ≤ 50000000 := by
  have h1 : a * b ≤ 50 * b := Int.mul_le_mul_of_nonneg_right ha.2 hb.1
  have h2 : 0 ≤ a * b := Int.mul_nonneg (by omega) hb.1
  omega
/-- all is sent, and for least -/
def CEnd (m0 : Mem) (G T : Nat) (s dm : Nat → Int) (paid : Int) : Prop := ∃ (a w : Nat → Int) (f : Nat → Nat → Int) (pG pT : Nat → Int), FLw G T (opC m0) s dm a w f ∧ (∀ t : Nat, t < T → w t = 0) ∧ PTd G T (opC m0) (cC53 m0) s pG pT ∧ PTt G T (cC53 m0) a f pG pT ∧ paid = cstF (cC53 m0) f G T
def CNo (m0 : Mem) (G T : Nat) (s dm : Nat → Int) : Prop := ∃ U W : Nat → Bool, NCt G T (opC m0) s dm U W
theorem sp_lpC {m0 : Mem} {G T : Nat} (hE : EmD m0 G T) {s dm : Nat → Int} (hs : ∀ g : Nat, g < G → 0 < s g ∧ s g ≤ 50) (hdm : ∀ t : Nat, t < T → dm t ≤ 50) {post : Int → Mem → Prop} (H1 : ∀ (m : Mem) (paid : Int), FrG m0 m → CEnd m0 G T s dm paid → post paid m) (H0 : ∀ m : Mem, FrG m0 m → CNo m0 G T s dm → post (-1) m) : ∀ (rem v3 : Nat) (m : Mem) (pG pT : Nat → Int), v3 + rem = 1200 → FrG m0 m → FLw G T (opC m0) s dm (fun g => m 51 g) (fun t => m 52 t) (fC m) → PTd G T (opC m0) (cC53 m0) s pG pT → PTt G T (cC53 m0) (fun g => m 51 g) (fC m) pG pT → sumg (fun t => m 52 t) T ≤ (rem : Int) → wp_X2_leastPaid_21 (fun v2_2 m_2 => wp_X2_isWanting m_2 (fun r91 m91 => ((r91 = 0 → (post v2_2 m91)) ∧ (¬ r91 = 0 → (post (-1) m91))))) post (rem + 1) (cstF (cC53 m0) (fC m) G T) v3 m := by
  have hO : OpOk G T (opC m0) (cC53 m0) s := fun g t hg ht ho => by
    rcases hE.2.2.2.2.2 g t hg ht with w | w
    · exact ⟨w.2.1, w.2.2, (hs g hg).1⟩
    · unfold opC at ho; unfold cC53 at w; omega
  have done : ∀ (m : Mem) (pG pT : Nat → Int), FrG m0 m → FLw G T (opC m0) s dm (fun g => m 51 g) (fun t => m 52 t) (fC m) → PTd G T (opC m0) (cC53 m0) s pG pT → PTt G T (cC53 m0) (fun g => m 51 g) (fC m) pG pT → (∀ t : Nat, t < T → ¬ 0 < m 52 t) → post (cstF (cC53 m0) (fC m) G T) m := fun m pG pT hf hF hP hQ hw => H1 m _ hf ⟨_, _, _, pG, pT, hF, fun t ht => by
    have h1 := (hF.2.1 t ht).1
    have h2 := hw t ht
    have h3 : 0 ≤ m 52 t := h1
    show m 52 t = 0
    omega, hP, hQ, rfl⟩
  intro rem
  induction rem with
  | zero =>
    intro v3 m pG pT hv hf hF hP hQ hsum
    have hw : ∀ t : Nat, t < T → ¬ 0 < m 52 t := fun t ht hw => by
      have := le_sumg (g := fun t => m 52 t) (i := t) T ht (fun x hx => (hF.2.1 x hx).1)
      have h2 : m 52 t ≤ sumg (fun t => m 52 t) T := this
      omega
    unfold wp_X2_leastPaid_21
    exact bt (by omega) (sp_want (emd_g hf hE) (fun t ht h => absurd h (hw t ht)) (fun _ => z0 (done m pG pT hf hF hP hQ hw)))
  | succ rem ih =>
    intro v3 m pG pT hv hf hF hP hQ hsum
    have hEm := emd_g hf hE
    obtain ⟨o1, o2⟩ := frg_op (m := m) (m0 := m0) (fun i => hf 53 i (by decide))
    have hFm : FLw G T (opC m) s dm (fun g => m 51 g) (fun t => m 52 t) (fC m) := by rw [o1]; exact hF
    have hPm : PTd G T (opC m) (cC53 m) s pG pT := by rw [o1, o2]; exact hP
    have hQm : PTt G T (cC53 m) (fun g => m 51 g) (fC m) pG pT := by rw [o2]; exact hQ
    have hLG := lgC hEm hFm hPm hQm
    have hG24 := hE.2.2.1
    unfold wp_X2_leastPaid_21
    refine bf (by omega) (sp_want hEm (fun tw htw hww => n1 ?_) (fun hw => n0 (done m pG pT hf hF hP hQ hw)))
    refine sp_spreadE hEm (p := pxC pG pT) (fun g hg => ?_) hLG (fun m1 hSp => ?_)
    · rw [px_g (by omega)]
      exact hP.2 g hg (hs g hg).1
    have hE1 := emd_fr hSp.1 hEm
    have r52 : m1 52 = m 52 := funext fun i => hSp.1 52 i (by decide)
    have r51 : m1 51 = m 51 := funext fun i => hSp.1 51 i (by decide)
    have r54 : m1 54 = m 54 := funext fun i => hSp.1 54 i (by decide)
    have rf : fC m1 = fC m := by unfold fC; rw [r54]
    obtain ⟨u1, u2⟩ := frg_op (m := m1) (m0 := m) (fun i => hSp.1 53 i (by decide))
    have hf1 : FrG m0 m1 := fun x i hx => by rw [hSp.1 x i (by omega)]; exact hf x i hx
    -- the labels, as heights want them
    have hLE : LEn G T (opC m0) (cC53 m0) (fun g => m 51 g) (fC m) pG pT 1000000 (fun g => m1 55 g) (fun t => m1 56 t) := by
      obtain ⟨hfr, ⟨rk, hL⟩, hLF⟩ := hSp
      refine ⟨fun g t hg ht ho hd => ?_, fun g t hg ht hff hd => ?_, fun g hg hd => ?_, fun g hg ha => ?_⟩
      · have := hLF g (24 + t) (cC53 m0 g t) ⟨g, t, hg, ht, Or.inl ⟨rfl, rfl, by rw [o1]; exact ho, by rw [o2]⟩⟩ (by rw [dC_g hg]; exact hd)
        rw [dC_g hg, dC_t hG24 ht] at this
        exact this
      · have := hLF (24 + t) g (-cC53 m0 g t) ⟨g, t, hg, ht, Or.inr ⟨rfl, rfl, hff, by rw [o2]⟩⟩ (by rw [dC_t hG24 ht]; exact hd)
        rw [dC_g hg, dC_t hG24 ht] at this
        show m1 55 g ≤ m1 56 t - cC53 m0 g t
        omega
      · have h1 := (hL.1 g (by omega)).2 (by rw [dC_g hg]; exact hd)
        have h2 := lv_up hL (by decide) (show g < 48 by omega) (by rw [dC_g hg]; exact hd)
        rw [dC_g hg] at h1 h2
        rw [px_g (by omega)] at h1
        exact ⟨h1.1, h2⟩
      · have := lv_root (by decide) hLG hL (show g < 48 by omega) ⟨hg, ha⟩
        rw [dC_g hg] at this
        exact this
    obtain ⟨hP', hQ'⟩ := le_next (by decide) hO hF hP hQ hLE
    refine sp_cheap hE1 (fun last hl hw hd => nt (by omega) ?_) (fun hno => nf rfl (H0 m1 hf1 ⟨_, _, le_nc (by decide) hO hF hLE (fun t ht hwt => ?_) htw hww⟩))
    · obtain ⟨pos, hpos, hch⟩ := chainC hEm hSp
      have hch1 : ∀ t : Nat, t < T → m1 56 t < 1000000 → ∃ g : Nat, g < G ∧ m1 58 t = g ∧ opC m1 g t ∧ m1 55 g < 1000000 ∧ m1 56 t = m1 55 g + cC53 m1 g t ∧ pos g < pos (24 + t) ∧ ((m1 57 g = -1 ∧ 0 < m1 51 g ∧ m1 55 g = 0) ∨ ∃ t2 : Nat, t2 < T ∧ m1 57 g = t2 ∧ 0 < fC m1 g t2 ∧ m1 56 t2 < 1000000 ∧ pos (24 + t2) < pos g) := by
        rw [u1, u2, rf, r51]
        exact hch
      have hb56 : 0 ≤ m1 56 last ∧ m1 56 last ≤ 1000000 := by
        obtain ⟨g, hg, -, ho, hdg, heq, -⟩ := hch last hl hd
        have h1 := (hLE.2.2.1 g hg hdg).1
        have h2 := hP.2 g hg (hs g hg).1
        have h3 := hO g last hg hl (by rw [o1] at ho; exact ho)
        rw [o2] at heq
        have h4 : pG g ≤ m1 55 g := h1
        omega
      refine sp_amt hE1 hpos hch1 hl hd hw (fun y k y0 y1 hcap => ?_)
      have hwl := hF.2.1 last hl
      have hy50 : y ≤ 50 := by
        have h1 := hdm last hl
        have h2 := sumg_n (g := fun g => fC m g last) G (fun g hg => (hF.2.2 g last hg hl).1)
        have h3 : m 52 last + sumg (fun g => fC m g last) G = dm last := hwl.2
        rw [r52] at y1
        omega
      have hy := mul_c ⟨y0, hy50⟩ hb56
      have hw50 : m1 52 last ≤ 50 := by
        have h1 := hdm last hl
        have h2 := sumg_n (g := fun g => fC m g last) G (fun g hg => (hF.2.2 g last hg hl).1)
        have h3 : m 52 last + sumg (fun g => fC m g last) G = dm last := hwl.2
        rw [r52]
        omega
      have cl : 0 ≤ (last : Int) ∧ (last : Int) < 24 := by have := hE.2.2.2.1; omega
      refine ⟨cl, cl, eqm ?_⟩
      rw [w32_i (x := m1 52 last - y) (by omega)]
      have hp48 := hpos (24 + last) (by have := hE.2.2.2.1; omega)
      have epT : ∀ t : Nat, t < T → m1 56 t < 1000000 → nxp 1000000 (fun t => m1 56 t) pT t = m1 56 t := fun t _ h => nxp_f h
      refine ⟨k + 1, sp_sendC hE1 hpos hch1 (s := s) (dm := dm) (pG := nxp 1000000 (fun g => m1 55 g) pG) (pT := nxp 1000000 (fun t => m1 56 t) pT) (fun g hg => (hs g hg).2) (fun g _ h => nxp_f h) epT (am := y) (K := cstF (cC53 m0) (fC m) G T + y * m1 56 last) ⟨y0, hy50⟩ (w0 := mset m1 52 last (m1 52 last - y) 52) (fun m2 hf2 hw2 hSF hle => ?_) k last 0 (mset m1 52 last (m1 52 last - y)) hcap hl hd (by omega) (fun x i hx => by rw [mset_ne (fun z => hx (by omega))]) rfl ?_ (fun g _ => by rw [mset_r (by decide)]) (fun g _ _ z _ => by unfold fC; rw [mset_r (by decide)])⟩
      · refine ⟨cl, eqm ?_⟩
        rw [hf2 56 last (by decide)]
        rw [u1, u2, o1, o2] at hSF
        obtain ⟨s1, s2, s3, s4⟩ := hSF
        have hF2 : FLw G T (opC m0) s dm (fun g => m2 51 g) (fun t => m2 52 t) (fC m2) := ⟨s1, s2, fun g t hg ht => ⟨(s3 g t hg ht).1, fun h => ((s3 g t hg ht).2 h).1⟩⟩
        have hcb := cost_b hG24 hO hF2 (fun g hg => (hs g hg).2)
        have hcb0 := cost_b hG24 hO hF (fun g hg => (hs g hg).2)
        rw [w32_i (x := y * m1 56 last) (by omega), w32_i (by omega), i1b v3 (by omega), ← s4]
        refine ih (v3 + 1) m2 _ _ (by omega) (fun x i hx => by rw [hf2 x i (by omega)]; exact hf1 x i hx) hF2 hP' ⟨fun g t hg ht h => ((s3 g t hg ht).2 h).2, fun g hg h => hQ'.2 g hg ?_⟩ ?_
        · have := hle g hg
          rw [r51] at this
          have h5 : 0 < m2 51 g := h
          show 0 < m 51 g
          omega
        · rw [hw2]
          have := sumg_up (g := fun t => m 52 t) (g' := fun t => mset m1 52 last (m1 52 last - y) 52 t) (i := last) (v := -y) T hl (by
            show mset m1 52 last (m1 52 last - y) 52 last = m 52 last + -y
            rw [mset_same, r52]; omega) (fun x _ hn => by
            show mset m1 52 last (m1 52 last - y) 52 x = m 52 x
            rw [mset_ne (by omega), r52])
          omega
      · rw [u1, u2, o1, o2]
        have ef : fC (mset m1 52 last (m1 52 last - y)) = fC m := by
          rw [← rf]
          unfold fC
          rw [mset_r (by decide)]
        rw [ef]
        refine ⟨fun g hg => ?_, fun t ht => ?_, fun g t hg ht => ?_, ?_⟩
        · rw [mset_r (by decide), r51]
          exact hF.1 g hg
        · have h1 := hF.2.1 t ht
          dsimp only
          by_cases c : t = last
          · subst c
            rw [if_pos rfl, mset_same, r52]
            have h3 : m 52 t + sumg (fun g => fC m g t) G = dm t := h1.2
            rw [r52] at y1
            omega
          · rw [if_neg c, mset_ne (by omega), r52, Int.add_zero]
            exact h1
        · exact ⟨(hF.2.2 g t hg ht).1, fun h => ⟨(hF.2.2 g t hg ht).2 h, hQ'.1 g t hg ht h⟩⟩
        · rw [epT last hl hd]
    · have h1 := hno t ht (by rw [r52]; exact hwt)
      exact h1
