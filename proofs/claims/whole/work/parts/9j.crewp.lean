/-! crews: counting -/
theorem cB_mono {p q : Nat → Bool} : ∀ n : Nat, (∀ x : Nat, x < n → p x = true → q x = true) → cB p n ≤ cB q n
  | 0, _ => Nat.le_refl _
  | n + 1, h => by
    have ih := cB_mono n (fun x hx => h x (by omega))
    have h1 := h n (by omega)
    unfold cB
    by_cases e : p n = true
    · rw [if_pos e, if_pos (h1 e)]; omega
    · rw [if_neg e]; omega
theorem cB_split (p q : Nat → Bool) : ∀ n : Nat, cB p n = cB (fun x => p x && q x) n + cB (fun x => p x && !q x) n
  | 0 => rfl
  | n + 1 => by
    have ih := cB_split p q n
    unfold cB
    rw [ih]
    cases p n <;> cases q n <;> simp <;> omega
theorem cB_pos {p : Nat → Bool} {n : Nat} (h : 0 < cB p n) : ∃ x : Nat, x < n ∧ p x = true := by
  by_cases e : ∃ x : Nat, x < n ∧ p x = true
  · exact e
  · rw [cB_none n (fun x hx => by
      cases hp : p x with
      | false => rfl
      | true => exact absurd ⟨x, hx, hp⟩ e)] at h
    exact absurd h (by omega)
theorem cB_inj {p : Nat → Bool} (f : Nat → Nat) {k : Nat} : ∀ (n : Nat) (q : Nat → Bool), (∀ x : Nat, x < n → p x = true → f x < k ∧ q (f x) = true) → (∀ x y : Nat, x < n → y < n → p x = true → p y = true → f x = f y → x = y) → cB p n ≤ cB q k
  | 0, q, _, _ => Nat.zero_le _
  | n + 1, q, h, hi => by
    by_cases e : p n = true
    · have h1 := h n (by omega) e
      have ih := cB_inj f (k := k) n (fun z => if z = f n then false else q z) (fun x hx hp => by
        have h2 := h x (by omega) hp
        refine ⟨h2.1, ?_⟩
        rw [if_neg (fun z => by have := hi x n (by omega) (by omega) hp e z; omega)]
        exact h2.2) (fun x y hx hy => hi x y (by omega) (by omega))
      have h3 := cB_1 (p := fun z => if z = f n then false else q z) (q := q) (i := f n) (by simp) h1.2 k h1.1 (fun x _ hn => by simp [hn])
      show cB p n + (if p n = true then 1 else 0) ≤ _
      rw [if_pos e]
      omega
    · have ih := cB_inj f (k := k) n q (fun x hx => h x (by omega)) (fun x y hx hy => hi x y (by omega) (by omega))
      show cB p n + (if p n = true then 1 else 0) ≤ _
      rw [if_neg e]
      omega
theorem sumg_0 {g : Nat → Int} : ∀ n : Nat, (∀ x : Nat, x < n → g x = 0) → sumg g n = 0
  | 0, _ => rfl
  | n + 1, h => by unfold sumg; rw [sumg_0 n (fun x hx => h x (by omega)), h n (by omega)]; rfl
theorem sumg_e {g g' : Nat → Int} : ∀ n : Nat, (∀ x : Nat, x < n → g x = g' x) → sumg g n = sumg g' n
  | 0, _ => rfl
  | n + 1, h => by unfold sumg; rw [sumg_e n (fun x hx => h x (by omega)), h n (by omega)]
theorem sumg_le {g g' : Nat → Int} : ∀ n : Nat, (∀ x : Nat, x < n → g x ≤ g' x) → sumg g n ≤ sumg g' n
  | 0, _ => Int.le_refl _
  | n + 1, h => by
    have ih := sumg_le n (fun x hx => h x (by omega))
    have h1 := h n (by omega)
    unfold sumg
    omega
theorem sumg_add (g g' : Nat → Int) : ∀ n : Nat, sumg (fun x => g x + g' x) n = sumg g n + sumg g' n
  | 0 => rfl
  | n + 1 => by unfold sumg; rw [sumg_add g g' n]; omega
theorem sumg_sub (g g' : Nat → Int) : ∀ n : Nat, sumg (fun x => g x - g' x) n = sumg g n - sumg g' n
  | 0 => rfl
  | n + 1 => by unfold sumg; rw [sumg_sub g g' n]; omega
/-- one place of a sum is raised by 1 -/
theorem sumg_1 {g g' : Nat → Int} {i : Nat} : ∀ n : Nat, i < n → g' i = g i + 1 → (∀ x : Nat, x < n → x ≠ i → g' x = g x) → sumg g' n = sumg g n + 1
  | 0, hi, _, _ => by omega
  | n + 1, hi, h, h' => by
    unfold sumg
    by_cases e : i = n
    · subst e
      rw [sumg_e i (fun x hx => h' x (by omega) (by omega)), h]
      omega
    · rw [sumg_1 n (by omega) h (fun x hx hn => h' x (by omega) hn), h' n (by omega) (by omega)]
      omega
/-- a count, yard by yard -/
theorem cB_part (p : Nat → Bool) (e : Nat → Nat) (Y : Nat) : ∀ n : Nat, (∀ x : Nat, x < n → e x < Y) → (cB p n : Int) = sumg (fun y => (cB (fun x => p x && decide (e x = y)) n : Int)) Y
  | 0, _ => (sumg_0 Y (fun x _ => rfl)).symm
  | n + 1, h => by
    have ih := cB_part p e Y n (fun x hx => h x (by omega))
    by_cases hp : p n = true
    · rw [sumg_1 (g := fun y => (cB (fun x => p x && decide (e x = y)) n : Int)) (i := e n) Y (h n (by omega)) (by
        show ((cB (fun x => p x && decide (e x = e n)) (n + 1) : Nat) : Int) = _
        rw [cB, if_pos (by rw [hp]; simp)]
        omega) (fun x hx hn => by
        show ((cB (fun x_1 => p x_1 && decide (e x_1 = x)) (n + 1) : Nat) : Int) = _
        rw [cB, if_neg (by rw [hp]; simp; exact fun z => hn z.symm)]
        omega), ← ih, cB, if_pos hp]
      omega
    · rw [sumg_e (g' := fun y => (cB (fun x => p x && decide (e x = y)) n : Int)) Y (fun y hy => by
        show ((cB (fun x_1 => p x_1 && decide (e x_1 = y)) (n + 1) : Nat) : Int) = _
        rw [cB, if_neg (by simp; exact fun z => absurd z hp)]
        omega), ← ih, cB, if_neg hp]
      omega
/-- duties of a list: begun at y before h; ready at y before h -/
def cS (o : Nat → Nat) (b : Nat → Int) (N y : Nat) (h : Int) : Int := (cB (fun k => decide (b k < h) && decide (o k = y)) N : Int)
theorem cS_m {o : Nat → Nat} {b : Nat → Int} {N y : Nat} {h h' : Int} (hh : h ≤ h') : cS o b N y h ≤ cS o b N y h' := by
  unfold cS
  have := cB_mono (p := fun k => decide (b k < h) && decide (o k = y)) (q := fun k => decide (b k < h') && decide (o k = y)) N (fun x _ hp => by
    simp at hp ⊢
    exact ⟨by omega, hp.2⟩)
  omega
theorem cS_n (o : Nat → Nat) (b : Nat → Int) (N y : Nat) (h : Int) : 0 ≤ cS o b N y h ∧ cS o b N y h ≤ N := by
  have := cB_le (fun k => decide (b k < h) && decide (o k = y)) N
  unfold cS
  omega
def cY (o : Nat → Nat) (N y : Nat) : Int := (cB (fun k => decide (o k = y)) N : Int)
theorem cS_all {o : Nat → Nat} {b : Nat → Int} {N y : Nat} {h : Int} (hb : ∀ k : Nat, k < N → b k < h) : cS o b N y h = cY o N y := by
  unfold cS cY
  have := cB_eq (p := fun k => decide (b k < h) && decide (o k = y)) (q := fun k => decide (o k = y)) N (fun k hk => by
    show (decide (b k < h) && decide (o k = y)) = _
    rw [decide_eq_true (hb k hk), Bool.true_and])
  rw [this]
theorem cY_sum {o : Nat → Nat} {N : Nat} (ho : ∀ k : Nat, k < N → o k < 8) : sumg (cY o N) 8 = N := by
  have := cB_part (fun _ => true) o 8 N ho
  rw [cB_all N (fun x _ => rfl)] at this
  rw [this]
  exact sumg_e 8 (fun y _ => by
    have := cB_eq (p := fun k => true && decide (o k = y)) (q := fun k => decide (o k = y)) N (fun k _ => Bool.true_and _)
    show cY o N y = _
    rw [this]
    rfl)
theorem crew_a {N : Nat} {o e : Nat → Nat} {b r : Nat → Int} (ho : ∀ k : Nat, k < N → o k < 8) {X : Nat → Int} (hX : ∀ y : Nat, y < 8 → ∃ T : Int, X y = cS o b N y T - cS e r N y T) (a : Nat → Int) (ha : ∀ j : Nat, j < N → a j = -1 ∨ ∃ i : Nat, i < N ∧ a j = i ∧ e i = o j ∧ r i ≤ b j) (hinj : ∀ j j' : Nat, j < N → j' < N → a j = a j' → a j ≠ -1 → j = j') : sumg X 8 ≤ (cB (fun j => decide (a j = -1)) N : Int) := by
  rw [cB_part (fun j => decide (a j = -1)) o 8 N ho]
  refine sumg_le 8 (fun y hy => ?_)
  obtain ⟨T, hT⟩ := hX y hy
  rw [hT]
  unfold cS
  have h1 := cB_split (fun k => decide (b k < T) && decide (o k = y)) (fun j => decide (a j = -1)) N
  have h2 := cB_mono (p := fun x => (decide (b x < T) && decide (o x = y)) && decide (a x = -1)) (q := fun x => decide (a x = -1) && decide (o x = y)) N (fun x _ hp => by simp at hp ⊢; exact ⟨hp.2, hp.1.2⟩)
  have h3 := cB_inj (p := fun x => (decide (b x < T) && decide (o x = y)) && !decide (a x = -1)) (fun j => (a j).toNat) (k := N) N (fun k => decide (r k < T) && decide (e k = y)) (fun x hx hp => by
    simp at hp
    rcases ha x hx with z | ⟨i, hi, z1, z2, z3⟩
    · exact absurd z hp.2
    · rw [z1]
      refine ⟨by simpa using hi, ?_⟩
      simp
      exact ⟨by omega, by omega⟩) (fun x x' hx hx' hp hp' hf => by
    simp at hp hp'
    rcases ha x hx with z | ⟨i, hi, z1, -⟩
    · exact absurd z hp.2
    · rcases ha x' hx' with z' | ⟨i', hi', z1', -⟩
      · exact absurd z' hp'.2
      · refine hinj x x' hx hx' ?_ hp.2
        simp only [z1, z1', Int.toNat_natCast] at hf
        rw [z1, z1', hf])
  omega
/-- the least of a set of duties -/
theorem least_r {p : Nat → Bool} {r : Nat → Int} : ∀ n : Nat, (∃ x : Nat, x < n ∧ p x = true) → ∃ x : Nat, x < n ∧ p x = true ∧ ∀ y : Nat, y < n → p y = true → r x ≤ r y
  | 0, h => by obtain ⟨x, hx, -⟩ := h; omega
  | n + 1, h => by
    by_cases q : ∃ x : Nat, x < n ∧ p x = true
    · obtain ⟨x, hx, hp, hm⟩ := least_r (r := r) n q
      by_cases c : p n = true ∧ r n < r x
      · refine ⟨n, by omega, c.1, fun y hy hpy => ?_⟩
        by_cases z : y = n
        · rw [z]; exact Int.le_refl _
        · have := hm y (by omega) hpy; have := c.2; omega
      · refine ⟨x, by omega, hp, fun y hy hpy => ?_⟩
        by_cases z : y = n
        · rw [z] at hpy ⊢
          by_cases w : r n < r x
          · exact absurd ⟨hpy, w⟩ c
          · omega
        · exact hm y (by omega) hpy
    · obtain ⟨x, hx, hp⟩ := h
      have : x = n := by
        by_cases z : x = n
        · exact z
        · exact absurd ⟨x, by omega, hp⟩ q
      subst this
      refine ⟨x, by omega, hp, fun y hy hpy => ?_⟩
      by_cases z : y = x
      · rw [z]; exact Int.le_refl _
      · exact absurd ⟨y, by omega, hpy⟩ q
theorem crew_b {N : Nat} {o e : Nat → Nat} {b r : Nat → Int} (ho : ∀ k : Nat, k < N → o k < 8) (he : ∀ k : Nat, k < N → e k < 8) {H : Int} (hb : ∀ k : Nat, k < N → b k < H) {X : Nat → Int} (h1 : ∀ y : Nat, y < 8 → ∀ T : Int, T ≤ H → 0 ≤ T → cS o b N y T - cS e r N y T ≤ X y) (hH : 0 ≤ H) (hr : ∀ k : Nat, k < N → 0 ≤ r k) (L V : Nat → Bool) (hLV : ∀ i j : Nat, i < N → j < N → L i = true → e i = o j → r i ≤ b j → V j = true) : (cB L N : Int) - (cB V N : Int) ≤ sumg X 8 := by
  have hs : sumg X 8 = sumg (fun y => cY e N y - cY o N y + X y) 8 := by
    rw [sumg_add, sumg_sub, cY_sum ho, cY_sum he]
    omega
  rw [hs, cB_part L e 8 N he, cB_part V o 8 N ho, ← sumg_sub]
  refine sumg_le 8 (fun y hy => ?_)
  show (cB (fun x => L x && decide (e x = y)) N : Int) - (cB (fun x => V x && decide (o x = y)) N : Int) ≤ cY e N y - cY o N y + X y
  by_cases q : ∃ x : Nat, x < N ∧ (fun x => L x && decide (e x = y)) x = true
  · obtain ⟨x, hx, hp, hm⟩ := least_r (r := r) N q
    simp at hp hm
    have a1 := cB_split (fun k => decide (e k = y)) (fun k => decide (r k < r x)) N
    have a2 := cB_mono (p := fun x => L x && decide (e x = y)) (q := fun k => decide (e k = y) && !decide (r k < r x)) N (fun k hk hpk => by
      simp at hpk ⊢
      exact ⟨hpk.2, hm k hk hpk.1 hpk.2⟩)
    have a3 := cB_split (fun k => decide (o k = y)) (fun k => decide (b k < r x)) N
    have a4 := cB_mono (p := fun k => decide (o k = y) && !decide (b k < r x)) (q := fun x => V x && decide (o x = y)) N (fun k hk hpk => by
      simp at hpk ⊢
      exact ⟨hLV x k hx hk hp.1 (by omega) hpk.2, hpk.1⟩)
    have a5 : (cB (fun k => decide (e k = y) && decide (r k < r x)) N : Int) = cS e r N y (r x) := by
      unfold cS
      rw [cB_eq N (fun k _ => Bool.and_comm _ _)]
    have a6 : (cB (fun k => decide (o k = y) && decide (b k < r x)) N : Int) = cS o b N y (r x) := by
      unfold cS
      rw [cB_eq N (fun k _ => Bool.and_comm _ _)]
    have a7 : cS o b N y (r x) - cS e r N y (r x) ≤ X y := by
      by_cases c : r x ≤ H
      · exact h1 y hy _ c (hr x hx)
      · have b1 := h1 y hy H (Int.le_refl _) hH
        have b2 := cS_m (o := e) (b := r) (N := N) (y := y) (show H ≤ r x by omega)
        have b3 := cS_all (o := o) (y := y) hb
        have b4 := cS_all (o := o) (b := b) (y := y) (h := r x) (fun k hk => by have := hb k hk; omega)
        omega
    unfold cY
    omega
  · have c1 : cB (fun x => L x && decide (e x = y)) N = 0 := cB_none N (fun x hx => by
      cases hp : (L x && decide (e x = y)) with
      | false => rfl
      | true => exact absurd ⟨x, hx, hp⟩ q)
    have b1 := h1 y hy H (Int.le_refl _) hH
    have b3 := cS_all (o := o) (y := y) hb
    have b5 : cS e r N y H ≤ cY e N y := by
      unfold cS cY
      have := cB_mono (p := fun k => decide (r k < H) && decide (e k = y)) (q := fun k => decide (e k = y)) N (fun x _ hp => by simp at hp ⊢; exact hp.2)
      omega
    omega
