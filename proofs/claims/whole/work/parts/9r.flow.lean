/-! least: what is sent, and what proves it least -/
theorem sumg_mul (k : Int) (h : Nat → Int) : ∀ n : Nat, sumg (fun x => k * h x) n = k * sumg h n
  | 0 => by unfold sumg; rw [Int.mul_zero]
  | n + 1 => by unfold sumg; rw [sumg_mul k h n, Int.mul_add]
theorem sumg_swap (h : Nat → Nat → Int) (T : Nat) : ∀ G : Nat, sumg (fun g => sumg (fun t => h g t) T) G = sumg (fun t => sumg (fun g => h g t) G) T
  | 0 => (sumg_0 T (fun _ _ => rfl)).symm
  | G + 1 => by
    show sumg (fun g => sumg (fun t => h g t) T) G + sumg (fun t => h G t) T = sumg (fun t => sumg (fun g => h g t) G + h G t) T
    rw [sumg_swap h T G, sumg_add]
/-- one place of a sum is changed -/
theorem sumg_up {g g' : Nat → Int} {i : Nat} {v : Int} : ∀ n : Nat, i < n → g' i = g i + v → (∀ x : Nat, x < n → x ≠ i → g' x = g x) → sumg g' n = sumg g n + v
  | 0, hi, _, _ => by omega
  | n + 1, hi, h, h' => by
    unfold sumg
    by_cases e : i = n
    · subst e
      rw [sumg_e i (fun x hx => h' x (by omega) (by omega)), h]
      omega
    · rw [sumg_up n (by omega) h (fun x hx hn => h' x (by omega) hn), h' n (by omega) (by omega)]
      omega
def cstF (c f : Nat → Nat → Int) (G T : Nat) : Int := sumg (fun g => sumg (fun t => c g t * f g t) T) G
def FLw (G T : Nat) (op : Nat → Nat → Prop) (s dm : Nat → Int) (a w : Nat → Int) (f : Nat → Nat → Int) : Prop := (∀ g : Nat, g < G → 0 ≤ a g ∧ a g + sumg (fun t => f g t) T = s g) ∧ (∀ t : Nat, t < T → 0 ≤ w t ∧ w t + sumg (fun g => f g t) G = dm t) ∧ ∀ g t : Nat, g < G → t < T → 0 ≤ f g t ∧ (0 < f g t → op g t)
/-- heights: no open pair is too cheap; those without want of s are not looked at -/
def PTd (G T : Nat) (op : Nat → Nat → Prop) (c : Nat → Nat → Int) (s : Nat → Int) (pG pT : Nat → Int) : Prop := (∀ g t : Nat, g < G → t < T → op g t → pT t ≤ pG g + c g t) ∧ ∀ g : Nat, g < G → 0 < s g → 0 ≤ pG g
def PTt (G T : Nat) (c : Nat → Nat → Int) (a : Nat → Int) (f : Nat → Nat → Int) (pG pT : Nat → Int) : Prop := (∀ g t : Nat, g < G → t < T → 0 < f g t → pT t = pG g + c g t) ∧ ∀ g : Nat, g < G → 0 < a g → pG g = 0
def dvl (G T : Nat) (s dm pG pT : Nat → Int) : Int := sumg (fun t => pT t * dm t) T - sumg (fun g => pG g * s g) G
theorem pf_sum {G T : Nat} {s dm a w : Nat → Int} {f : Nat → Nat → Int} (ha : ∀ g : Nat, g < G → a g + sumg (fun t => f g t) T = s g) (hw : ∀ t : Nat, t < T → w t + sumg (fun g => f g t) G = dm t) (pG pT : Nat → Int) : sumg (fun g => sumg (fun t => (pT t - pG g) * f g t) T) G = dvl G T s dm pG pT - sumg (fun t => pT t * w t) T + sumg (fun g => pG g * a g) G := by
  have e1 : sumg (fun g => sumg (fun t => (pT t - pG g) * f g t) T) G = sumg (fun g => sumg (fun t => pT t * f g t) T - pG g * sumg (fun t => f g t) T) G := sumg_e G (fun g _ => by
    show sumg (fun t => (pT t - pG g) * f g t) T = _
    rw [← sumg_mul, ← sumg_sub]
    exact sumg_e T (fun t _ => Int.sub_mul _ _ _))
  have e2 : sumg (fun t => sumg (fun g => pT t * f g t) G) T = sumg (fun t => pT t * dm t - pT t * w t) T := sumg_e T (fun t ht => by
    show sumg (fun g => pT t * f g t) G = _
    rw [sumg_mul, ← hw t ht, Int.mul_add]
    omega)
  have e3 : sumg (fun g => pG g * sumg (fun t => f g t) T) G = sumg (fun g => pG g * s g - pG g * a g) G := sumg_e G (fun g hg => by
    show pG g * sumg (fun t => f g t) T = _
    rw [← ha g hg, Int.mul_add]
    omega)
  rw [e1, sumg_sub, sumg_swap (fun g t => pT t * f g t) T G, e2, e3, sumg_sub, sumg_sub]
  unfold dvl
  omega
theorem dual_le {G T : Nat} {op : Nat → Nat → Prop} {c : Nat → Nat → Int} {s dm a w : Nat → Int} {f : Nat → Nat → Int} (hF : FLw G T op s dm a w f) (hw : ∀ t : Nat, t < T → w t = 0) {pG pT : Nat → Int} (hP : PTd G T op c s pG pT) : dvl G T s dm pG pT ≤ cstF c f G T := by
  have h1 := pf_sum (fun g hg => (hF.1 g hg).2) (fun t ht => (hF.2.1 t ht).2) pG pT
  have h2 : sumg (fun t => pT t * w t) T = 0 := sumg_0 T (fun t ht => by show pT t * w t = 0; rw [hw t ht, Int.mul_zero])
  have h3 : 0 ≤ sumg (fun g => pG g * a g) G := sumg_n G (fun g hg => by
    show 0 ≤ pG g * a g
    obtain ⟨q1, q2⟩ := hF.1 g hg
    by_cases z : a g = 0
    · rw [z, Int.mul_zero]; exact Int.le_refl _
    · have h4 : 0 ≤ sumg (fun t => f g t) T := sumg_n T (fun t ht => (hF.2.2 g t hg ht).1)
      exact Int.mul_nonneg (hP.2 g hg (by omega)) q1)
  have h4 : sumg (fun g => sumg (fun t => (pT t - pG g) * f g t) T) G ≤ cstF c f G T := sumg_le G (fun g hg => sumg_le T (fun t ht => by
    show (pT t - pG g) * f g t ≤ c g t * f g t
    obtain ⟨q1, q2⟩ := hF.2.2 g t hg ht
    by_cases z : f g t = 0
    · rw [z, Int.mul_zero, Int.mul_zero]; exact Int.le_refl _
    · have := hP.1 g t hg ht (q2 (by omega))
      exact Int.mul_le_mul_of_nonneg_right (by omega) q1))
  omega
theorem dual_eq {G T : Nat} {op : Nat → Nat → Prop} {c : Nat → Nat → Int} {s dm a w : Nat → Int} {f : Nat → Nat → Int} (hF : FLw G T op s dm a w f) (hw : ∀ t : Nat, t < T → w t = 0) {pG pT : Nat → Int} (hP : PTt G T c a f pG pT) : dvl G T s dm pG pT = cstF c f G T := by
  have h1 := pf_sum (fun g hg => (hF.1 g hg).2) (fun t ht => (hF.2.1 t ht).2) pG pT
  have h2 : sumg (fun t => pT t * w t) T = 0 := sumg_0 T (fun t ht => by show pT t * w t = 0; rw [hw t ht, Int.mul_zero])
  have h3 : sumg (fun g => pG g * a g) G = 0 := sumg_0 G (fun g hg => by
    show pG g * a g = 0
    by_cases z : a g = 0
    · rw [z, Int.mul_zero]
    · rw [hP.2 g hg (by have := (hF.1 g hg).1; omega), Int.zero_mul])
  have h4 : sumg (fun g => sumg (fun t => (pT t - pG g) * f g t) T) G = cstF c f G T := sumg_e G (fun g hg => sumg_e T (fun t ht => by
    show (pT t - pG g) * f g t = c g t * f g t
    obtain ⟨q1, q2⟩ := hF.2.2 g t hg ht
    by_cases z : f g t = 0
    · rw [z, Int.mul_zero, Int.mul_zero]
    · have := hP.1 g t hg ht (by omega)
      rw [show pT t - pG g = c g t by omega]))
  omega
/-- takers whose wants no givers can meet -/
def NCt (G T : Nat) (op : Nat → Nat → Prop) (s dm : Nat → Int) (U W : Nat → Bool) : Prop := (∀ g t : Nat, g < G → t < T → op g t → U t = true → W g = true) ∧ sumg (fun g => if W g = true then s g else 0) G < sumg (fun t => if U t = true then dm t else 0) T
theorem nc_no {G T : Nat} {op : Nat → Nat → Prop} {s dm a w : Nat → Int} {f : Nat → Nat → Int} (hF : FLw G T op s dm a w f) (hw : ∀ t : Nat, t < T → w t = 0) {U W : Nat → Bool} (hN : NCt G T op s dm U W) : False := by
  obtain ⟨n1, n2⟩ := hN
  have e1 : sumg (fun t => if U t = true then dm t else 0) T = sumg (fun t => sumg (fun g => if U t = true then f g t else 0) G) T := sumg_e T (fun t ht => by
    show (if U t = true then dm t else 0) = sumg (fun g => if U t = true then f g t else 0) G
    have h1 := (hF.2.1 t ht).2
    rw [hw t ht] at h1
    by_cases q : U t = true
    · rw [if_pos q, ← h1, Int.zero_add]
      exact sumg_e G (fun g _ => (if_pos q).symm)
    · rw [if_neg q]
      exact (sumg_0 G (fun g _ => if_neg q)).symm)
  rw [e1, ← sumg_swap (fun g t => if U t = true then f g t else 0) T G] at n2
  have h2 : sumg (fun g => sumg (fun t => if U t = true then f g t else 0) T) G ≤ sumg (fun g => if W g = true then s g else 0) G := sumg_le G (fun g hg => by
    show sumg (fun t => if U t = true then f g t else 0) T ≤ (if W g = true then s g else 0)
    by_cases q : W g = true
    · rw [if_pos q]
      have h3 := (hF.1 g hg)
      have h4 : sumg (fun t => if U t = true then f g t else 0) T ≤ sumg (fun t => f g t) T := sumg_le T (fun t ht => by
        show (if U t = true then f g t else 0) ≤ f g t
        by_cases z : U t = true
        · rw [if_pos z]; exact Int.le_refl _
        · rw [if_neg z]; exact (hF.2.2 g t hg ht).1)
      omega
    · rw [if_neg q, sumg_0 T (fun t ht => by
        show (if U t = true then f g t else 0) = 0
        by_cases z : U t = true
        · rw [if_pos z]
          obtain ⟨q1, q2⟩ := hF.2.2 g t hg ht
          by_cases y : f g t = 0
          · exact y
          · exact absurd (n1 g t hg ht (q2 (by omega)) z) q
        · exact if_neg z)]
      exact Int.le_refl _)
  omega
/-- labels that can't be cheaper, as both sides have them -/
def LEn (G T : Nat) (op : Nat → Nat → Prop) (c : Nat → Nat → Int) (a : Nat → Int) (f : Nat → Nat → Int) (pG pT : Nat → Int) (I : Int) (D E : Nat → Int) : Prop := (∀ g t : Nat, g < G → t < T → op g t → D g < I → E t ≤ D g + c g t) ∧ (∀ g t : Nat, g < G → t < T → 0 < f g t → E t < I → D g ≤ E t - c g t) ∧ (∀ g : Nat, g < G → D g < I → pG g ≤ D g ∧ D g ≤ 48000) ∧ ∀ g : Nat, g < G → 0 < a g → D g = 0
def OpOk (G T : Nat) (op : Nat → Nat → Prop) (c : Nat → Nat → Int) (s : Nat → Int) : Prop := ∀ g t : Nat, g < G → t < T → op g t → 0 ≤ c g t ∧ c g t ≤ 1000 ∧ 0 < s g
theorem le_nc {G T : Nat} {op : Nat → Nat → Prop} {c : Nat → Nat → Int} {s dm a w : Nat → Int} {f : Nat → Nat → Int} {pG pT : Nat → Int} {I : Int} (hI : 100000 < I) {D E : Nat → Int} (hO : OpOk G T op c s) (hF : FLw G T op s dm a w f) (hL : LEn G T op c a f pG pT I D E) (hw : ∀ t : Nat, t < T → 0 < w t → ¬ E t < I) {t0 : Nat} (ht0 : t0 < T) (hw0 : 0 < w t0) : NCt G T op s dm (fun t => decide (¬ E t < I)) (fun g => decide (¬ D g < I)) := by
  obtain ⟨l1, l2, l3, l4⟩ := hL
  have hU : ∀ t : Nat, (decide (¬ E t < I) = true) ↔ ¬ E t < I := fun t => ⟨of_decide_eq_true, decide_eq_true⟩
  have hW : ∀ g : Nat, (decide (¬ D g < I) = true) ↔ ¬ D g < I := fun g => ⟨of_decide_eq_true, decide_eq_true⟩
  refine ⟨fun g t hg ht ho hu => ?_, ?_⟩
  · refine (hW g).mpr (fun z => ?_)
    have h1 := l1 g t hg ht ho z
    have h2 := hO g t hg ht ho
    have h3 := l3 g hg z
    exact (hU t).mp hu (by omega)
  · have e1 : sumg (fun g => if decide (¬ D g < I) = true then s g else 0) G ≤ sumg (fun g => sumg (fun t => if decide (¬ E t < I) = true then f g t else 0) T) G := sumg_le G (fun g hg => by
      show (if decide (¬ D g < I) = true then s g else 0) ≤ sumg (fun t => if decide (¬ E t < I) = true then f g t else 0) T
      by_cases q : decide (¬ D g < I) = true
      · rw [if_pos q]
        have q' := (hW g).mp q
        have h1 := hF.1 g hg
        have h2 : a g = 0 := by
          by_cases z : 0 < a g
          · exact absurd (by rw [l4 g hg z]; omega) q'
          · omega
        have h3 : sumg (fun t => f g t) T = sumg (fun t => if decide (¬ E t < I) = true then f g t else 0) T := sumg_e T (fun t ht => by
          by_cases y : decide (¬ E t < I) = true
          · rw [if_pos y]
          · rw [if_neg y]
            have y' : E t < I := Int.not_le.mp (fun k => y ((hU t).mpr (Int.not_lt.mpr k)))
            obtain ⟨q1, q2⟩ := hF.2.2 g t hg ht
            by_cases z : f g t = 0
            · exact z
            · have h5 := l2 g t hg ht (by omega) y'
              have h6 := hO g t hg ht (q2 (by omega))
              exact absurd (by omega) q')
        omega
      · rw [if_neg q]
        exact sumg_n T (fun t ht => by
          show 0 ≤ (if decide (¬ E t < I) = true then f g t else 0)
          by_cases y : decide (¬ E t < I) = true
          · rw [if_pos y]; exact (hF.2.2 g t hg ht).1
          · rw [if_neg y]; exact Int.le_refl _))
    rw [sumg_swap (fun g t => if decide (¬ E t < I) = true then f g t else 0) T G] at e1
    have e2 : sumg (fun t => sumg (fun g => if decide (¬ E t < I) = true then f g t else 0) G) T < sumg (fun t => if decide (¬ E t < I) = true then dm t else 0) T := by
      have e3 : ∀ t : Nat, t < T → sumg (fun g => if decide (¬ E t < I) = true then f g t else 0) G + (if decide (¬ E t < I) = true then w t else 0) = (if decide (¬ E t < I) = true then dm t else 0) := fun t ht => by
        have h1 := (hF.2.1 t ht).2
        by_cases y : decide (¬ E t < I) = true
        · rw [if_pos y, if_pos y, ← h1, sumg_e G (fun g _ => if_pos y)]
          omega
        · rw [if_neg y, if_neg y, sumg_0 G (fun g _ => if_neg y)]
          rfl
      refine sumg_lt (i := t0) T ht0 ?_ (fun t ht => ?_)
      · have h1 := e3 t0 ht0
        rw [if_pos (c := decide (¬ E t0 < I) = true) (t := w t0) ((hU t0).mpr (hw t0 ht0 hw0))] at h1
        show _ < (if decide (¬ E t0 < I) = true then dm t0 else 0)
        omega
      · have h1 := e3 t ht
        have h2 : 0 ≤ (if decide (¬ E t < I) = true then w t else 0) := by
          by_cases y : decide (¬ E t < I) = true
          · rw [if_pos y]; exact (hF.2.1 t ht).1
          · rw [if_neg y]; exact Int.le_refl _
        show _ ≤ (if decide (¬ E t < I) = true then dm t else 0)
        omega
    exact Int.lt_of_le_of_lt e1 e2
/-- the next heights -/
def nxp (I : Int) (D p : Nat → Int) (x : Nat) : Int := if D x < I then D x else p x + I
theorem nxp_f {I : Int} {D p : Nat → Int} {x : Nat} (h : D x < I) : nxp I D p x = D x := if_pos h
theorem nxp_n {I : Int} {D p : Nat → Int} {x : Nat} (h : ¬ D x < I) : nxp I D p x = p x + I := if_neg h
theorem le_next {G T : Nat} {op : Nat → Nat → Prop} {c : Nat → Nat → Int} {s dm a w : Nat → Int} {f : Nat → Nat → Int} {pG pT : Nat → Int} {I : Int} (hI : 100000 < I) {D E : Nat → Int} (hO : OpOk G T op c s) (hF : FLw G T op s dm a w f) (hP : PTd G T op c s pG pT) (hQ : PTt G T c a f pG pT) (hL : LEn G T op c a f pG pT I D E) : PTd G T op c s (nxp I D pG) (nxp I E pT) ∧ PTt G T c a f (nxp I D pG) (nxp I E pT) := by
  obtain ⟨l1, l2, l3, l4⟩ := hL
  refine ⟨⟨fun g t hg ht ho => ?_, fun g hg hs => ?_⟩, fun g t hg ht hf => ?_, fun g hg ha => ?_⟩
  · have h2 := hO g t hg ht ho
    by_cases q : D g < I
    · have h1 := l1 g t hg ht ho q
      have h3 := l3 g hg q
      rw [nxp_f q, nxp_f (show E t < I by omega)]
      exact h1
    · rw [nxp_n q]
      have h4 := hP.2 g hg h2.2.2
      by_cases z : E t < I
      · rw [nxp_f z]; omega
      · rw [nxp_n z]
        have := hP.1 g t hg ht ho
        omega
  · have h4 := hP.2 g hg hs
    by_cases q : D g < I
    · rw [nxp_f q]
      have := l3 g hg q
      omega
    · rw [nxp_n q]; omega
  · have ho := (hF.2.2 g t hg ht).2 hf
    have h2 := hO g t hg ht ho
    by_cases q : D g < I
    · have h1 := l1 g t hg ht ho q
      have h3 := l3 g hg q
      have h4 := l2 g t hg ht hf (by omega)
      rw [nxp_f q, nxp_f (show E t < I by omega)]
      omega
    · have z : ¬ E t < I := fun z => by
        have := l2 g t hg ht hf z
        omega
      rw [nxp_n q, nxp_n z]
      have := hQ.1 g t hg ht hf
      omega
  · have := l4 g hg ha
    rw [nxp_f (by omega)]
    exact this
/-- on the way back from a taker: t0 is short of am -/
def SI (G T : Nat) (op : Nat → Nat → Prop) (c : Nat → Nat → Int) (s dm : Nat → Int) (pG pT : Nat → Int) (am K : Int) (a w : Nat → Int) (f : Nat → Nat → Int) (t0 : Nat) : Prop := (∀ g : Nat, g < G → 0 ≤ a g ∧ a g + sumg (fun t => f g t) T = s g) ∧ (∀ t : Nat, t < T → 0 ≤ w t ∧ w t + sumg (fun g => f g t) G + (if t = t0 then am else 0) = dm t) ∧ (∀ g t : Nat, g < G → t < T → 0 ≤ f g t ∧ (0 < f g t → op g t ∧ pT t = pG g + c g t)) ∧ cstF c f G T + am * pT t0 = K
def SF (G T : Nat) (op : Nat → Nat → Prop) (c : Nat → Nat → Int) (s dm : Nat → Int) (pG pT : Nat → Int) (K : Int) (a w : Nat → Int) (f : Nat → Nat → Int) : Prop := (∀ g : Nat, g < G → 0 ≤ a g ∧ a g + sumg (fun t => f g t) T = s g) ∧ (∀ t : Nat, t < T → 0 ≤ w t ∧ w t + sumg (fun g => f g t) G = dm t) ∧ (∀ g t : Nat, g < G → t < T → 0 ≤ f g t ∧ (0 < f g t → op g t ∧ pT t = pG g + c g t)) ∧ cstF c f G T = K
theorem cst_up {G T : Nat} {c f f' : Nat → Nat → Int} {g t : Nat} {v : Int} (hg : g < G) (ht : t < T) (h : f' g t = f g t + v) (h' : ∀ g' t' : Nat, g' < G → t' < T → ¬ (g' = g ∧ t' = t) → f' g' t' = f g' t') : (cstF c f' G T = cstF c f G T + c g t * v) ∧ (∀ g' : Nat, g' < G → sumg (fun t => f' g' t) T = sumg (fun t => f g' t) T + (if g' = g then v else 0)) ∧ ∀ t' : Nat, t' < T → sumg (fun g => f' g t') G = sumg (fun g => f g t') G + (if t' = t then v else 0) := by
  refine ⟨?_, fun g' hg' => ?_, fun t' ht' => ?_⟩
  · unfold cstF
    refine sumg_up (i := g) G hg ?_ (fun x hx hn => sumg_e T (fun y hy => by
      show c x y * f' x y = c x y * f x y
      rw [h' x y hx hy (fun z => hn z.1)]))
    refine sumg_up (i := t) T ht ?_ (fun y hy hn => by
      show c g y * f' g y = c g y * f g y
      rw [h' g y hg hy (fun z => hn z.2)])
    show c g t * f' g t = c g t * f g t + c g t * v
    rw [h, Int.mul_add]
  · by_cases e : g' = g
    · subst e
      rw [if_pos rfl]
      exact sumg_up (i := t) T ht h (fun y hy hn => h' g' y hg' hy (fun z => hn z.2))
    · rw [if_neg e, Int.add_zero]
      exact sumg_e T (fun y hy => h' g' y hg' hy (fun z => e z.1))
  · by_cases e : t' = t
    · subst e
      rw [if_pos rfl]
      exact sumg_up (i := g) G hg h (fun x hx hn => h' x t' hx ht' (fun z => hn z.1))
    · rw [if_neg e, Int.add_zero]
      exact sumg_e G (fun x hx => h' x t' hx ht' (fun z => e z.2))
theorem si_root {G T : Nat} {op : Nat → Nat → Prop} {c : Nat → Nat → Int} {s dm pG pT : Nat → Int} {am K : Int} (ham : 0 < am) {a w : Nat → Int} {f : Nat → Nat → Int} {t0 : Nat} (ht0 : t0 < T) (h : SI G T op c s dm pG pT am K a w f t0) {g : Nat} (hg : g < G) (ho : op g t0) (hp : pT t0 = pG g + c g t0) (hg0 : pG g = 0) (ha : am ≤ a g) {a' : Nat → Int} {f' : Nat → Nat → Int} (h1 : a' g = a g - am) (h1' : ∀ x : Nat, x < G → x ≠ g → a' x = a x) (h2 : f' g t0 = f g t0 + am) (h2' : ∀ x y : Nat, x < G → y < T → ¬ (x = g ∧ y = t0) → f' x y = f x y) : SF G T op c s dm pG pT K a' w f' := by
  obtain ⟨q1, q2, q3, q4⟩ := h
  obtain ⟨u1, u2, u3⟩ := cst_up (c := c) hg ht0 h2 h2'
  refine ⟨fun x hx => ?_, fun t ht => ?_, fun x y hx hy => ?_, ?_⟩
  · have b1 := q1 x hx
    have b2 := u2 x hx
    by_cases e : x = g
    · subst e
      rw [if_pos rfl] at b2
      omega
    · rw [if_neg e] at b2
      rw [h1' x hx e]
      omega
  · have b1 := q2 t ht
    have b2 := u3 t ht
    by_cases e : t = t0
    · rw [if_pos e] at b1 b2
      omega
    · rw [if_neg e] at b1 b2
      omega
  · by_cases e : x = g ∧ y = t0
    · rw [e.1, e.2, h2]
      have := (q3 g t0 hg ht0).1
      exact ⟨by omega, fun _ => ⟨ho, hp⟩⟩
    · rw [h2' x y hx hy e]
      exact q3 x y hx hy
  · rw [hp, hg0, Int.zero_add] at q4
    rw [u1, Int.mul_comm, q4]
theorem si_back {G T : Nat} {op : Nat → Nat → Prop} {c : Nat → Nat → Int} {s dm pG pT : Nat → Int} {am K : Int} (ham : 0 < am) {a w : Nat → Int} {f : Nat → Nat → Int} {t0 : Nat} (ht0 : t0 < T) (h : SI G T op c s dm pG pT am K a w f t0) {g t2 : Nat} (hg : g < G) (ht2 : t2 < T) (hne : t2 ≠ t0) (ho : op g t0) (hp : pT t0 = pG g + c g t0) (ha : am ≤ f g t2) {f1 f' : Nat → Nat → Int} (h2 : f1 g t0 = f g t0 + am) (h2' : ∀ x y : Nat, x < G → y < T → ¬ (x = g ∧ y = t0) → f1 x y = f x y) (h3 : f' g t2 = f1 g t2 + -am) (h3' : ∀ x y : Nat, x < G → y < T → ¬ (x = g ∧ y = t2) → f' x y = f1 x y) : SI G T op c s dm pG pT am K a w f' t2 := by
  obtain ⟨q1, q2, q3, q4⟩ := h
  obtain ⟨u1, u2, u3⟩ := cst_up (c := c) hg ht0 h2 h2'
  obtain ⟨v1, v2, v3⟩ := cst_up (c := c) hg ht2 h3 h3'
  have hf1 : f1 g t2 = f g t2 := h2' g t2 hg ht2 (fun z => hne z.2)
  have hp2 := ((q3 g t2 hg ht2).2 (by omega)).2
  refine ⟨fun x hx => ?_, fun t ht => ?_, fun x y hx hy => ?_, ?_⟩
  · have b1 := q1 x hx
    have b2 := u2 x hx
    have b3 := v2 x hx
    by_cases e : x = g
    · rw [if_pos e] at b2 b3
      omega
    · rw [if_neg e] at b2 b3
      omega
  · have b1 := q2 t ht
    have b2 := u3 t ht
    have b3 := v3 t ht
    by_cases e : t = t0
    · rw [if_pos e] at b1 b2
      rw [if_neg (fun z => hne (z.symm.trans e))] at b3 ⊢
      omega
    · rw [if_neg e] at b1 b2
      by_cases e2 : t = t2
      · rw [if_pos e2] at b3 ⊢
        omega
      · rw [if_neg e2] at b3 ⊢
        omega
  · by_cases e2 : x = g ∧ y = t2
    · rw [e2.1, e2.2, h3, hf1]
      have := q3 g t2 hg ht2
      exact ⟨by omega, fun _ => this.2 (by omega)⟩
    · rw [h3' x y hx hy e2]
      by_cases e : x = g ∧ y = t0
      · rw [e.1, e.2, h2]
        have := (q3 g t0 hg ht0).1
        exact ⟨by omega, fun _ => ⟨ho, hp⟩⟩
      · rw [h2' x y hx hy e]
        exact q3 x y hx hy
  · have e1 : am * pT t0 = am * pG g + am * c g t0 := by rw [hp, Int.mul_add]
    have e2 : am * pT t2 = am * pG g + am * c g t2 := by rw [hp2, Int.mul_add]
    rw [v1, u1, e2, Int.mul_comm (c g t0) am, Int.mul_neg, Int.mul_comm (c g t2) am]
    omega
