/-! least: labels of cheapest ways -/
def fnC (I : Int) (d : Nat → Int) (n : Nat) : Int := (cB (fun y => decide (d y < I)) n : Int)
/-- arcs, roots and a height under which no arc is too cheap -/
def LG (n : Nat) (Ar : Nat → Nat → Int → Prop) (rt : Nat → Prop) (p : Nat → Int) : Prop := (∀ (u v : Nat) (k : Int), Ar u v k → u < n ∧ v < n ∧ k ≤ 1000 ∧ p v ≤ p u + k) ∧ ∀ x : Nat, x < n → rt x → p x = 0
def LVx (n : Nat) (Ar : Nat → Nat → Int → Prop) (rt : Nat → Prop) (p : Nat → Int) (I : Int) (d par : Nat → Int) (rk : Nat → Nat) (x : Nat) : Prop :=
  (par x = -1 ∧ rt x ∧ d x = 0) ∨ ∃ u : Nat, u < n ∧ par x = u ∧ ∃ k : Int, Ar u x k ∧ d u < I ∧ d u + k ≤ d x ∧ (d u - p u < d x - p x ∨ (d u - p u = d x - p x ∧ rk u < rk x))
def LV (n : Nat) (Ar : Nat → Nat → Int → Prop) (rt : Nat → Prop) (p : Nat → Int) (I : Int) (d par : Nat → Int) (rk : Nat → Nat) : Prop :=
  (∀ x : Nat, x < n → d x ≤ I ∧ (d x < I → p x ≤ d x ∧ d x ≤ 1000 * fnC I d n)) ∧ (∀ x : Nat, x < n → d x < I → LVx n Ar rt p I d par rk x) ∧ ∀ x : Nat, x < n → rt x → d x ≤ 0
/-- nothing can be cheaper -/
def LF (Ar : Nat → Nat → Int → Prop) (I : Int) (d : Nat → Int) : Prop := ∀ (u v : Nat) (k : Int), Ar u v k → d u < I → d v ≤ d u + k
theorem fnC_r (I : Int) (d : Nat → Int) (n : Nat) : 0 ≤ fnC I d n ∧ fnC I d n ≤ n := by
  have := cB_le (fun y => decide (d y < I)) n
  unfold fnC
  omega
theorem lv_up {n : Nat} {Ar : Nat → Nat → Int → Prop} {rt : Nat → Prop} {p : Nat → Int} {I : Int} {d par : Nat → Int} {rk : Nat → Nat} (h : LV n Ar rt p I d par rk) (hn : n ≤ 48) {x : Nat} (hx : x < n) (hd : d x < I) : d x ≤ 48000 := by
  have h1 := ((h.1 x hx).2 hd).2
  have h2 := (fnC_r I d n).2
  omega
theorem lv_root {n : Nat} {Ar : Nat → Nat → Int → Prop} {rt : Nat → Prop} {p : Nat → Int} {I : Int} (hI : 0 < I) {d par : Nat → Int} {rk : Nat → Nat} (hG : LG n Ar rt p) (h : LV n Ar rt p I d par rk) {x : Nat} (hx : x < n) (hr : rt x) : d x = 0 := by
  have h1 := h.2.2 x hx hr
  have h2 := ((h.1 x hx).2 (by omega)).1
  have h3 := hG.2 x hx hr
  omega
/-- one more relaxing -/
theorem lv_relax {n : Nat} (hn : n ≤ 48) {Ar : Nat → Nat → Int → Prop} {rt : Nat → Prop} {p : Nat → Int} {I : Int} (hI : 100000 < I) (hG : LG n Ar rt p) {d par : Nat → Int} {rk : Nat → Nat} (h : LV n Ar rt p I d par rk) {u v : Nat} {k : Int} (hA : Ar u v k) (hu : d u < I) (hlt : d u + k < d v) {d' par' : Nat → Int} (hd : d' v = d u + k) (hp : par' v = u) (hd' : ∀ x : Nat, x ≠ v → d' x = d x) (hp' : ∀ x : Nat, x ≠ v → par' x = par x) : ∃ rk' : Nat → Nat, LV n Ar rt p I d' par' rk' := by
  obtain ⟨h1, h2, h3⟩ := h
  obtain ⟨a1, a2, a3, a4⟩ := hG.1 u v k hA
  have huv : u ≠ v := fun e => by subst e; omega
  have b1 := (h1 u a1).2 hu
  have b2 := h1 v a2
  have c1 := fnC_r I d n
  have fc : fnC I d n ≤ fnC I d' n ∧ (¬ d v < I → fnC I d' n = fnC I d n + 1) := by
    unfold fnC
    refine ⟨?_, fun q => ?_⟩
    · have := cB_mono (p := fun y => decide (d y < I)) (q := fun y => decide (d' y < I)) n (fun x _ hx => by
        by_cases e : x = v
        · rw [e, hd]; exact decide_eq_true (by omega)
        · rw [hd' x e]; exact hx)
      omega
    · have := cB_1 (p := fun y => decide (d y < I)) (q := fun y => decide (d' y < I)) (i := v) (decide_eq_false q) (decide_eq_true (by omega)) n a2 (fun x _ e => by rw [hd' x e])
      omega
  refine ⟨fun x => if x = v then rk u + 1 else rk x, fun x hx => ?_, fun x hx hf => ?_, fun x hx hr => ?_⟩
  · by_cases e : x = v
    · subst e
      rw [hd]
      refine ⟨by omega, fun _ => ⟨by omega, ?_⟩⟩
      by_cases q : d x < I
      · have := (b2.2 q).2
        omega
      · have := fc.2 q
        omega
    · rw [hd' x e]
      refine ⟨(h1 x hx).1, fun q => ⟨((h1 x hx).2 q).1, ?_⟩⟩
      have := ((h1 x hx).2 q).2
      omega
  · by_cases e : x = v
    · subst e
      refine Or.inr ⟨u, a1, hp, k, hA, by rw [hd' u huv]; exact hu, by rw [hd, hd' u huv]; exact Int.le_refl _, ?_⟩
      rw [hd, hd' u huv]
      show _ ∨ (_ ∧ (if u = x then rk u + 1 else rk u) < (if x = x then rk u + 1 else rk x))
      rw [if_neg huv, if_pos rfl]
      omega
    · rw [hd' x e] at hf
      rcases h2 x hx hf with ⟨q1, q2, q3⟩ | ⟨y, hy, q1, k', q2, q3, q4, q5⟩
      · exact Or.inl ⟨by rw [hp' x e]; exact q1, q2, by rw [hd' x e]; exact q3⟩
      · refine Or.inr ⟨y, hy, by rw [hp' x e]; exact q1, k', q2, ?_⟩
        show d' y < I ∧ d' y + k' ≤ d' x ∧ (d' y - p y < d' x - p x ∨ (d' y - p y = d' x - p x ∧ (if y = v then rk u + 1 else rk y) < (if x = v then rk u + 1 else rk x)))
        rw [hd' x e, if_neg e]
        by_cases e2 : y = v
        · subst e2
          rw [hd]
          exact ⟨by omega, by omega, Or.inl (by omega)⟩
        · rw [hd' y e2, if_neg e2]
          exact ⟨q3, q4, q5⟩
  · by_cases e : x = v
    · subst e
      have := h3 x hx hr
      omega
    · rw [hd' x e]; exact h3 x hx hr
theorem low_p (p : Nat → Int) : ∀ n : Nat, ∃ b : Int, b ≤ 0 ∧ ∀ x : Nat, x < n → b ≤ p x
  | 0 => ⟨0, Int.le_refl _, fun x hx => by omega⟩
  | n + 1 => by
    obtain ⟨b, h0, h⟩ := low_p p n
    by_cases q : p n < b
    · refine ⟨p n, by omega, fun x hx => ?_⟩
      by_cases e : x = n
      · rw [e]; exact Int.le_refl _
      · have := h x (by omega); omega
    · refine ⟨b, h0, fun x hx => ?_⟩
      by_cases e : x = n
      · rw [e]; omega
      · exact h x (by omega)
theorem sumg_lt {g g' : Nat → Int} {i : Nat} : ∀ n : Nat, i < n → g' i < g i → (∀ x : Nat, x < n → g' x ≤ g x) → sumg g' n < sumg g n
  | 0, hi, _, _ => by omega
  | n + 1, hi, h, h' => by
    have h2 := h' n (by omega)
    unfold sumg
    by_cases e : i = n
    · subst e
      have := sumg_le i (fun x hx => h' x (by omega))
      omega
    · have := sumg_lt n (by omega) h (fun x hx => h' x (by omega))
      omega
theorem sumg_n {g : Nat → Int} : ∀ n : Nat, (∀ x : Nat, x < n → 0 ≤ g x) → 0 ≤ sumg g n
  | 0, _ => Int.le_refl _
  | n + 1, h => by
    have ih := sumg_n n (fun x hx => h x (by omega))
    have h1 := h n (by omega)
    unfold sumg
    omega
theorem lv_low {n : Nat} {Ar : Nat → Nat → Int → Prop} {rt : Nat → Prop} {p : Nat → Int} {I : Int} (hI : 100000 < I) {d par : Nat → Int} {rk : Nat → Nat} (h : LV n Ar rt p I d par rk) {b : Int} (hb : b ≤ 0 ∧ ∀ x : Nat, x < n → b ≤ p x) {x : Nat} (hx : x < n) : b ≤ d x := by
  by_cases q : d x < I
  · have := ((h.1 x hx).2 q).1
    have := hb.2 x hx
    omega
  · omega
/-- some labels below cannot be made cheaper -/
theorem lv_end {n : Nat} (hn : n ≤ 48) {Ar : Nat → Nat → Int → Prop} {rt : Nat → Prop} {p : Nat → Int} {I : Int} (hI : 100000 < I) (hG : LG n Ar rt p) : ∀ (s : Nat) (b : Int), (b ≤ 0 ∧ ∀ x : Nat, x < n → b ≤ p x) → ∀ (d par : Nat → Int) (rk : Nat → Nat), LV n Ar rt p I d par rk → sumg (fun x => d x - b) n ≤ s → ∃ (e par' : Nat → Int) (rk' : Nat → Nat), LV n Ar rt p I e par' rk' ∧ LF Ar I e ∧ ∀ x : Nat, e x ≤ d x := by
  intro s b hb
  induction s with
  | zero =>
    intro d par rk h hs
    refine ⟨d, par, rk, h, fun u v k hA hu => ?_, fun x => Int.le_refl _⟩
    obtain ⟨a1, a2, a3, a4⟩ := hG.1 u v k hA
    by_cases q : d u + k < d v
    · have h0 := lv_low hI h hb a2
      have hu0 := ((h.1 u a1).2 hu).1
      have hv0 := hb.2 v a2
      have := sumg_lt (g := fun x => d x - b) (g' := fun _ => 0) (i := v) n a2 (by show 0 < d v - b; omega) (fun x hx => by have := lv_low hI h hb hx; show 0 ≤ d x - b; omega)
      rw [sumg_0 n (fun _ _ => rfl)] at this
      omega
    · omega
  | succ s ih =>
    intro d par rk h hs
    by_cases q : ∃ (u v : Nat) (k : Int), Ar u v k ∧ d u < I ∧ d u + k < d v
    · obtain ⟨u, v, k, hA, hu, hlt⟩ := q
      obtain ⟨a1, a2, a3, a4⟩ := hG.1 u v k hA
      obtain ⟨rk', h'⟩ := lv_relax hn hI hG h hA hu hlt (d' := fun x => if x = v then d u + k else d x) (par' := fun x => if x = v then (u : Int) else par x) (if_pos rfl) (if_pos rfl) (fun x e => if_neg e) (fun x e => if_neg e)
      have hle : ∀ x : Nat, (if x = v then d u + k else d x) ≤ d x := fun x => by
        by_cases e : x = v
        · rw [if_pos e, e]; omega
        · rw [if_neg e]; exact Int.le_refl _
      have hlt' := sumg_lt (g := fun x => d x - b) (g' := fun x => (if x = v then d u + k else d x) - b) (i := v) n a2 (by show (if v = v then d u + k else d v) - b < d v - b; rw [if_pos rfl]; omega) (fun x _ => by have := hle x; show _ - b ≤ d x - b; omega)
      obtain ⟨e, par', rk2, e1, e2, e3⟩ := ih _ _ rk' h' (by omega)
      exact ⟨e, par', rk2, e1, e2, fun x => Int.le_trans (e3 x) (hle x)⟩
    · refine ⟨d, par, rk, h, fun u v k hA hu => ?_, fun x => Int.le_refl _⟩
      by_cases q2 : d u + k < d v
      · exact absurd ⟨u, v, k, hA, hu, q2⟩ q
      · omega
theorem lv_fix {n : Nat} (hn : n ≤ 48) {Ar : Nat → Nat → Int → Prop} {rt : Nat → Prop} {p : Nat → Int} {I : Int} (hI : 100000 < I) (hG : LG n Ar rt p) {d par : Nat → Int} {rk : Nat → Nat} (h : LV n Ar rt p I d par rk) : ∃ (e par' : Nat → Int) (rk' : Nat → Nat), LV n Ar rt p I e par' rk' ∧ LF Ar I e ∧ ∀ x : Nat, e x ≤ d x := by
  obtain ⟨b, hb⟩ := low_p p n
  exact lv_end hn hI hG (sumg (fun x => d x - b) n).toNat b hb d par rk h (by omega)
theorem cB_lt {p q : Nat → Bool} {z : Nat} {n : Nat} (hz : z < n) (hp : p z = false) (hq : q z = true) (h : ∀ x : Nat, x < n → p x = true → q x = true) : cB p n < cB q n := by
  have h1 := cB_1 (p := p) (q := fun x => if x = z then true else p x) (i := z) hp (if_pos rfl) n hz (fun x _ e => (if_neg e).symm)
  have h2 := cB_mono (p := fun x => if x = z then true else p x) (q := q) n (fun x hx hxt => by
    by_cases e : x = z
    · rw [e]; exact hq
    · have : (if x = z then true else p x) = true := hxt
      rw [if_neg e] at this
      exact h x hx this)
  omega
/-- the place of a label in their order: ways go down -/
theorem lv_pos {n : Nat} {Ar : Nat → Nat → Int → Prop} {rt : Nat → Prop} {p : Nat → Int} {I : Int} {d par : Nat → Int} {rk : Nat → Nat} (h : LV n Ar rt p I d par rk) : ∃ pos : Nat → Nat, (∀ x : Nat, x < n → pos x < n) ∧ ∀ x : Nat, x < n → d x < I → (par x = -1 ∧ rt x ∧ d x = 0) ∨ ∃ u : Nat, u < n ∧ par x = u ∧ pos u < pos x ∧ ∃ k : Int, Ar u x k ∧ d u < I ∧ d u + k ≤ d x := by
  refine ⟨fun x => cB (fun y => decide (d y - p y < d x - p x ∨ (d y - p y = d x - p x ∧ rk y < rk x))) n, fun x hx => ?_, fun x hx hd => ?_⟩
  · have := cB_lt (p := fun y => decide (d y - p y < d x - p x ∨ (d y - p y = d x - p x ∧ rk y < rk x))) (q := fun _ => true) (z := x) hx (decide_eq_false (by omega)) rfl (fun _ _ _ => rfl)
    rw [cB_all n (fun _ _ => rfl)] at this
    exact this
  · rcases h.2.1 x hx hd with q | ⟨u, hu, q1, k, q2, q3, q4, q5⟩
    · exact Or.inl q
    · refine Or.inr ⟨u, hu, q1, ?_, k, q2, q3, q4⟩
      exact cB_lt (z := u) hu (decide_eq_false (by omega)) (decide_eq_true q5) (fun y _ hy => by
        have := of_decide_eq_true hy
        exact decide_eq_true (by omega))
/-- a round brings one more label to its end -/
theorem lv_round {n : Nat} {Ar : Nat → Nat → Int → Prop} {rt : Nat → Prop} {p : Nat → Int} {I : Int} (hI : 0 < I) (hG : LG n Ar rt p) {e par' : Nat → Int} {rk' : Nat → Nat} (he : LV n Ar rt p I e par' rk') {d d' : Nat → Int} (hdI : ∀ x : Nat, x < n → d x ≤ I ∧ (rt x → d x = 0)) (h1 : ∀ x : Nat, x < n → e x ≤ d' x ∧ d' x ≤ d x) (h2 : ∀ (u v : Nat) (k : Int), Ar u v k → d u < I → d' v ≤ d u + k) (hne : 0 < cB (fun x => decide (¬ d x = e x)) n) : cB (fun x => decide (¬ d' x = e x)) n < cB (fun x => decide (¬ d x = e x)) n := by
  obtain ⟨pos, hp1, hp2⟩ := lv_pos he
  obtain ⟨x, hx, hp, hm⟩ := least_r (p := fun x => decide (¬ d x = e x)) (r := fun x => (pos x : Int)) n (cB_pos hne)
  have hp' : ¬ d x = e x := of_decide_eq_true hp
  have hle := h1 x hx
  have hfin : e x < I := by
    have := (hdI x hx).1
    omega
  have fin : d' x = e x := by
    rcases hp2 x hx hfin with ⟨q1, q2, q3⟩ | ⟨u, hu, q1, q2, k, q3, q4, q5⟩
    · have := (hdI x hx).2 q2
      omega
    · have hdu : d u = e u := by
        by_cases w : d u = e u
        · exact w
        · have h3 : (pos x : Int) ≤ (pos u : Int) := hm u hu (decide_eq_true w)
          omega
      have := h2 u x k q3 (by omega)
      omega
  exact cB_lt (z := x) hx (decide_eq_false (fun w => w fin)) hp (fun y hy hyd => by
    have hy' : ¬ d' y = e y := of_decide_eq_true hyd
    have := h1 y hy
    exact decide_eq_true (fun w => hy' (by omega)))
