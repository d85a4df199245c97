/-! crews: the reference's search for one more pair -/
def FrJ (r0 r : Mem) : Prop := ∀ x k : Int, ¬ (x = 91 ∨ x = 92 ∨ x = 93 ∨ x = 94) → r x k = r0 x k
def Fol (o e : Nat → Nat) (b rd : Nat → Int) (i j : Nat) : Prop := e i = o j ∧ rd i ≤ b j
/-- the list of duties, as the search reads it -/
def DL (r0 : Mem) (N : Nat) (o e : Nat → Nat) (b rd : Nat → Int) : Prop := r0 67 41 = N ∧ N ≤ 84 ∧ ∀ k : Nat, k < N → ∃ t : Nat, t < 12 ∧ r0 89 k = t ∧ (0 ≤ r0 74 (6 * (t : Int)) ∧ r0 74 (6 * (t : Int)) < 20) ∧ r0 71 (r0 74 (6 * (t : Int))) = e k ∧ r0 70 (r0 74 (6 * (t : Int))) = o k ∧ r0 90 k = b k ∧ (0 ≤ b k ∧ b k < 168) ∧ (1 ≤ r0 74 (6 * (t : Int) + 4) ∧ r0 74 (6 * (t : Int) + 4) ≤ 48) ∧ (0 ≤ r0 67 19 ∧ r0 67 19 ≤ 48) ∧ rd k = b k + r0 74 (6 * (t : Int) + 4) + r0 67 19
theorem mf_x {t : Nat} (h : t < 12) : w32 (6 * (t : Int)) = 6 * t ∧ w32 (6 * (t : Int) + 4) = 6 * t + 4 := ⟨w32_i (by omega), w32_i (by omega)⟩
theorem mf_s {b k s : Int} (hb : 0 ≤ b ∧ b < 168) (hk : 1 ≤ k ∧ k ≤ 48) (hs : 0 ≤ s ∧ s ≤ 48) : w32 (w32 (b + k) + s) = b + k + s := by rw [w32_i (x := b + k) (by omega), w32_i (by omega)]
theorem sp_mayF {r0 r : Mem} {N : Nat} {o e : Nat → Nat} {b rd : Nat → Int} (hD : DL r0 N o e b rd) (hf : FrJ r0 r) {i j : Nat} (hi : i < N) (hj : j < N) {post : Int → Mem → Prop} (H1 : Fol o e b rd i j → post 1 r) (H0 : ¬ Fol o e b rd i j → post 0 r) : wp_X11_mayFollow i j r post := by
  obtain ⟨hN, h84, hk⟩ := hD
  obtain ⟨t, ht, a1, a2, a3, a4, a5, a6, a7, a8, a9⟩ := hk i hi
  obtain ⟨u, hu, b1, b2, b3, b4, b5, b6, b7, b8, b9⟩ := hk j hj
  have g : ∀ x k : Int, ¬ (x = 91 ∨ x = 92 ∨ x = 93 ∨ x = 94) → r x k = r0 x k := hf
  have ci : 0 ≤ (i : Int) ∧ (i : Int) < 84 := by omega
  have cj : 0 ≤ (j : Int) ∧ (j : Int) < 84 := by omega
  have ct : 0 ≤ 6 * (t : Int) ∧ 6 * (t : Int) < 72 := by omega
  have cu : 0 ≤ 6 * (u : Int) ∧ 6 * (u : Int) < 72 := by omega
  have ct4 : 0 ≤ 6 * (t : Int) + 4 ∧ 6 * (t : Int) + 4 < 72 := by omega
  have e74 : r 74 = r0 74 := funext fun k => g 74 k (by decide)
  have e71 : r 71 = r0 71 := funext fun k => g 71 k (by decide)
  have e70 : r 70 = r0 70 := funext fun k => g 70 k (by decide)
  have e89 : r 89 = r0 89 := funext fun k => g 89 k (by decide)
  have e90 : r 90 = r0 90 := funext fun k => g 90 k (by decide)
  have e67 : r 67 = r0 67 := funext fun k => g 67 k (by decide)
  have hF : Fol o e b rd i j ↔ (e i = o j ∧ b i + r0 74 (6 * (t : Int) + 4) + r0 67 19 ≤ b j) := by unfold Fol; rw [a9]
  unfold wp_X11_mayFollow
  refine ⟨ci, eqm ?_⟩
  rw [e74, e71, e70, e89, a1, b1, (mf_x ht).1, (mf_x hu).1]
  refine ⟨ct, a2, cj, cu, b2, ?_⟩
  rw [a3, b4]
  refine ⟨fun q => ?_, fun q => ?_⟩
  · unfold wp_X11_mayFollow_48
    exact bt rfl (H0 (fun z => q (by rw [(hF.mp z).1])))
  · unfold wp_X11_mayFollow_48
    rw [(mf_x ht).1, (mf_x ht).2, e74, e90, e67, a5, b5, mf_s a6 a7 a8]
    refine bf (by decide) ⟨cj, ci, ct4, fun q2 => H0 (fun z => ?_), fun q2 => H1 (hF.mpr ⟨Int.ofNat_inj.mp q, Int.not_lt.mp q2⟩)⟩
    exact absurd (hF.mp z).2 (Int.not_le.mpr q2)
theorem sp_jclear {N : Nat} (hN : N ≤ 84) {r : Mem} {K : Int → Mem → Prop} {post : Int → Mem → Prop} {v : Int} (h : r 67 41 = N) (H : ∀ r' : Mem, (∀ x k : Int, ¬ x = 93 → r' x k = r x k) → (∀ y : Nat, y < N → r' 93 y = -1) → K v r') : ∃ n : Nat, wp_X11_join_2 K post n v 0 r := by
  have key : ∀ (rem j : Nat) (r' : Mem), j + rem = N → (∀ x k : Int, ¬ x = 93 → r' x k = r x k) → (∀ y : Nat, y < j → r' 93 y = -1) → wp_X11_join_2 K post (rem + 1) v j r' := by
    intro rem
    induction rem with
    | zero =>
      intro j r' hj hf hy
      have : j = N := by omega
      subst this
      unfold wp_X11_join_2
      rw [hf 67 41 (by decide), h]
      exact bt (Int.le_refl _) (H r' hf hy)
    | succ rem ih =>
      intro j r' hj hf hy
      have nx := ih (j + 1) (mset r' 93 j (-1)) (by omega) (fun x k hx => by rw [mset_ne (fun z => hx z.1)]; exact hf x k hx) (fun y hyj => by
        by_cases e : y = j
        · rw [e, mset_same]
        · rw [mset_ne (by omega)]; exact hy y (by omega))
      unfold wp_X11_join_2
      rw [hf 67 41 (by decide), h, i1 j (by omega)]
      exact bf (by omega) ⟨by omega, eqm nx⟩
  exact ⟨N + 1, key N 0 r (by omega) (fun _ _ _ => rfl) (fun y hy => by omega)⟩
def cP (B Fm : Int → Int) (i : Nat) (x : Nat) : Bool := decide (x = i ∨ (¬ B x = -1 ∧ ¬ Fm (B x) = -1))
def cQ (Fm : Int → Int) (y : Nat) : Bool := decide (¬ Fm y = -1)
/-- what stands in the search: what was met, and in what order -/
def BQ (F : Nat → Nat → Prop) (N i : Nat) (B A Fm Ln : Int → Int) (tau : Nat → Nat) (L V : Nat → Bool) (en : Nat) : Prop :=
  (∀ y : Nat, y < N → Fm y = -1 ∨ ((∃ x : Nat, x < N ∧ Fm y = x ∧ F x y ∧ (x = i ∨ ∃ y' : Nat, y' < N ∧ B x = y' ∧ ¬ Fm y' = -1 ∧ tau y' < tau y)) ∧ tau y < en ∧ ∃ x k : Nat, x < N ∧ A y = x ∧ k < en ∧ Ln k = x)) ∧
  (∀ k : Nat, k < en → ∃ x : Nat, x < N ∧ Ln k = x ∧ (x = i ∨ ∃ y' : Nat, y' < N ∧ B x = y' ∧ ¬ Fm y' = -1)) ∧
  (0 < en ∧ Ln 0 = i) ∧ en = cB (cP B Fm i) N ∧ cB (fun x => L x || cP B Fm i x) N + cB V N = cB (fun y => V y || cQ Fm y) N + cB L N + 1
def BC (F : Nat → Nat → Prop) (N : Nat) (Fm Ln : Int → Int) (a : Nat) : Prop := ∀ k : Nat, k < a → ∀ x : Nat, Ln k = x → ∀ y : Nat, y < N → F x y → ¬ Fm y = -1
/-- between two searches -/
def JG (F : Nat → Nat → Prop) (N i : Nat) (L V : Nat → Bool) (B A : Int → Int) : Prop := MV F N B A (-1) ∧ (∀ z : Nat, z < N → i ≤ z → B z = -1) ∧ (∀ y : Nat, y < N → V y = true → ∃ x : Nat, x < N ∧ A y = x ∧ L x = true) ∧ (∀ x y : Nat, x < N → y < N → L x = true → F x y → V y = true) ∧ (∀ x : Nat, x < N → L x = true → x < i) ∧ i + cH A (-1) N + cB V N = N + cB L N
theorem bq_0 {F : Nat → Nat → Prop} {N i : Nat} (hi : i < N) {L V : Nat → Bool} {B A Fm Ln : Int → Int} (hG : JG F N i L V B A) (hF : ∀ y : Nat, y < N → Fm y = -1) (hL : Ln 0 = i) : BQ F N i B A Fm Ln (fun _ => 0) L V 1 := by
  obtain ⟨hM, hB, hV, hC, hLi, hc⟩ := hG
  have hP : ∀ x : Nat, x < N → cP B Fm i x = decide (x = i) := fun x hx => by
    unfold cP
    refine decide_eq_decide.mpr ⟨fun w => w.elim id (fun w => ?_), fun w => Or.inl w⟩
    rcases hM.1 x hx with q | ⟨j, hj, q1, q2, q3⟩
    · exact absurd q w.1
    · rw [q1] at w
      exact absurd (hF j hj) w.2
  have h1 : cB (cP B Fm i) N = 1 := by
    rw [cB_eq N hP, cB_1 (p := fun _ => false) (i := i) rfl (decide_eq_true rfl) N hi (fun x _ hn => (decide_eq_false hn).symm), cB_none N (fun _ _ => rfl)]
  have h2 : cB (fun y => V y || cQ Fm y) N = cB V N := cB_eq N (fun y hy => by
    unfold cQ
    rw [decide_eq_false (fun w => w (hF y hy)), Bool.or_false])
  have hLi' : L i = false := by
    cases h : L i with
    | false => rfl
    | true => exact absurd (hLi i hi h) (Nat.lt_irrefl _)
  have h3 : cB (fun x => L x || cP B Fm i x) N = cB L N + 1 := cB_1 (i := i) hLi' (by rw [hP i hi, decide_eq_true rfl, Bool.or_true]) N hi (fun x hx hn => by rw [hP x hx, decide_eq_false hn, Bool.or_false])
  refine ⟨fun y hy => Or.inl (hF y hy), fun k hk => ⟨i, hi, ?_, Or.inl rfl⟩, ⟨by omega, hL⟩, h1.symm, by omega⟩
  rw [show k = 0 by omega]
  exact hL
theorem orl {a b : Bool} (h : a = true) : (a || b) = true := by rw [h, Bool.true_or]
theorem orr {a b : Bool} (h : b = true) : (a || b) = true := by rw [h, Bool.or_true]
theorem bq_fail {F : Nat → Nat → Prop} {N i : Nat} {L V : Nat → Bool} {B A Fm Ln : Int → Int} {tau : Nat → Nat} {en : Nat} (hG : JG F N i L V B A) (hQ : BQ F N i B A Fm Ln tau L V en) (hC : BC F N Fm Ln en) : JG F N (i + 1) (fun x => L x || cP B Fm i x) (fun y => V y || cQ Fm y) B A := by
  obtain ⟨hM, hB, hV, hCl, hLi, hc⟩ := hG
  obtain ⟨q1, q2, q3, q4, q5⟩ := hQ
  have inl : ∀ x : Nat, x < N → cP B Fm i x = true → ∃ k : Nat, k < en ∧ Ln k = x := fun x hx hp => by
    rcases of_decide_eq_true hp with w | w
    · exact ⟨0, q3.1, by rw [w]; exact q3.2⟩
    · rcases hM.1 x hx with z | ⟨j, hj, z1, z2, z3⟩
      · exact absurd z w.1
      · rw [z1] at w
        rcases q1 j hj with v | ⟨-, -, x2, k, v1, v2, v3, v4⟩
        · exact absurd v w.2
        · exact ⟨k, v3, by rw [v4, ← v2, z3]⟩
  refine ⟨hM, fun z hz hiz => hB z hz (by omega), fun y hy hv => ?_, fun x y hx hy hl hf => ?_, fun x hx hl => ?_, by omega⟩
  · rcases (Bool.or_eq_true _ _).mp hv with w | w
    · obtain ⟨x, hx, e1, e2⟩ := hV y hy w
      exact ⟨x, hx, e1, orl e2⟩
    · have w' := of_decide_eq_true w
      rcases q1 y hy with v | ⟨-, -, x, k, v1, v2, v3, v4⟩
      · exact absurd v w'
      · rcases hM.2 y hy (by omega) with z | ⟨x2, hx2, z1, z2, z3⟩
        · omega
        · refine ⟨x2, hx2, z1, ?_⟩
          have : cP B Fm i x2 = true := decide_eq_true (Or.inr (by rw [z3]; exact ⟨by omega, w'⟩))
          exact orr this
  · rcases (Bool.or_eq_true _ _).mp hl with w | w
    · exact orl (hCl x y hx hy w hf)
    · obtain ⟨k, hk, e⟩ := inl x hx w
      have : cQ Fm y = true := decide_eq_true (hC k hk x e y hy hf)
      exact orr this
  · rcases (Bool.or_eq_true _ _).mp hl with w | w
    · have := hLi x hx w; omega
    · rcases of_decide_eq_true w with w | w
      · omega
      · by_cases c : i ≤ x
        · exact absurd (hB x hx c) w.1
        · omega
/-- one more is met, which stands behind another -/
theorem bq_step {F : Nat → Nat → Prop} {N i : Nat} {L V : Nat → Bool} {B A Fm Ln : Int → Int} {tau : Nat → Nat} {en : Nat} (hi : i < N) (hG : JG F N i L V B A) (hQ : BQ F N i B A Fm Ln tau L V en) {a x j x' : Nat} (ha : a < en) (hx : Ln a = x) (hxN : x < N) (hj : j < N) (hj0 : Fm j = -1) (hF : F x j) (hx' : x' < N) (hA : A j = x') {tau' : Nat → Nat} (tj : tau' j = en) (tn : ∀ y : Nat, y ≠ j → tau' y = tau y) : en < N ∧ BQ F N i B A (rset Fm j x) (rset Ln en x') tau' L V (en + 1) := by
  obtain ⟨hM, hB, hV, hCl, hLi, hc⟩ := hG
  obtain ⟨q1, q2, q3, q4, q5⟩ := hQ
  have hB' : B x' = j ∧ F x' j := by
    rcases hM.2 j hj (by omega) with z | ⟨x2, hx2, z1, z2, z3⟩
    · omega
    · have : x2 = x' := by omega
      subst this
      exact ⟨z3, z2⟩
  have hBi := hB i hi (Nat.le_refl _)
  have hxi : ¬ x' = i := fun w => by rw [w, hBi] at hB'; omega
  have nj : ¬ (j : Int) = -1 := by omega
  have nx : ¬ (x : Int) = -1 := by omega
  have hP0 : cP B Fm i x' = false := decide_eq_false (fun w => w.elim hxi (fun w => w.2 (by rw [hB'.1]; exact hj0)))
  have hP1 : cP B (rset Fm j x) i x' = true := decide_eq_true (Or.inr (by rw [hB'.1, rset_eq rfl]; exact ⟨nj, nx⟩))
  have hPs : ∀ z : Nat, z < N → z ≠ x' → cP B Fm i z = cP B (rset Fm j x) i z := fun z hz hn => by
    unfold cP
    rw [rset_ne (fun w => by
      rcases hM.1 z hz with p | ⟨j2, hj2, p1, p2, p3⟩
      · omega
      · have : j2 = j := by omega
        subst this
        omega)]
  have hP := cB_1 hP0 hP1 N hx' hPs
  have hQ0 : cQ Fm j = false := decide_eq_false (fun w => w hj0)
  have hQ1 : cQ (rset Fm j x) j = true := decide_eq_true (by rw [rset_eq rfl]; exact nx)
  have hQs : ∀ y : Nat, y ≠ j → cQ Fm y = cQ (rset Fm j x) y := fun y hn => by
    unfold cQ
    rw [rset_ne (show ¬ (y : Int) = (j : Int) by omega)]
  have hle := cB_le (cP B (rset Fm j x) i) N
  have hen : en < N := by omega
  have nen : ∀ k : Nat, k < en → rset Ln en x' k = Ln k := fun k hk => rset_ne (by omega)
  have vis : ∀ y : Nat, ¬ Fm y = -1 → ¬ rset Fm j x y = -1 := fun y hy => by
    by_cases e : y = j
    · rw [e] at hy; exact absurd hj0 hy
    · rw [rset_ne (show ¬ (y : Int) = (j : Int) by omega)]; exact hy
  have nvis : ∀ y : Nat, ¬ Fm y = -1 → y ≠ j := fun y hy e => by rw [e] at hy; exact hy hj0
  refine ⟨hen, fun y hy => ?_, fun k hk => ?_, ⟨by omega, ?_⟩, by omega, ?_⟩
  · by_cases e : y = j
    · subst e
      refine Or.inr ⟨⟨x, hxN, rset_eq rfl, hF, ?_⟩, by rw [tj]; omega, x', en, hx', hA, by omega, rset_eq rfl⟩
      obtain ⟨x2, hx2, w1, w2⟩ := q2 a ha
      have : x2 = x := by omega
      subst this
      rcases w2 with w2 | ⟨y', hy', w3, w4⟩
      · exact Or.inl w2
      · refine Or.inr ⟨y', hy', w3, vis y' w4, ?_⟩
        rw [tj, tn y' (nvis y' w4)]
        rcases q1 y' hy' with v | v
        · exact absurd v w4
        · exact v.2.1
    · rw [rset_ne (show ¬ (y : Int) = (j : Int) by omega), tn y e]
      rcases q1 y hy with v | ⟨⟨x2, h1, h2, h3, h4⟩, h5, x3, k, h6, h7, h8, h9⟩
      · exact Or.inl v
      · refine Or.inr ⟨⟨x2, h1, h2, h3, h4.elim Or.inl (fun z => ?_)⟩, by omega, x3, k, h6, h7, by omega, by rw [nen k h8]; exact h9⟩
        obtain ⟨y', z1, z2, z3, z4⟩ := z
        exact Or.inr ⟨y', z1, z2, vis y' z3, by rw [tn y' (nvis y' z3)]; exact z4⟩
  · by_cases e : k = en
    · rw [e]
      exact ⟨x', hx', rset_eq rfl, Or.inr ⟨j, hj, hB'.1, by rw [rset_eq rfl]; exact nx⟩⟩
    · rw [nen k (by omega)]
      obtain ⟨x2, h1, h2, h3⟩ := q2 k (by omega)
      exact ⟨x2, h1, h2, h3.elim Or.inl (fun z => by obtain ⟨y', z1, z2, z3⟩ := z; exact Or.inr ⟨y', z1, z2, vis y' z3⟩)⟩
  · rw [rset_ne (by omega)]; exact q3.2
  · cases hv : V j with
    | true =>
      obtain ⟨x2, hx2, w1, w2⟩ := hV j hj hv
      have : x2 = x' := by omega
      subst this
      have e1 : cB (fun z => L z || cP B (rset Fm j x) i z) N = cB (fun z => L z || cP B Fm i z) N := cB_eq N (fun z hz => by
        by_cases e : z = x2
        · rw [e, w2, Bool.true_or, Bool.true_or]
        · rw [hPs z hz e])
      have e2 : cB (fun y => V y || cQ (rset Fm j x) y) N = cB (fun y => V y || cQ Fm y) N := cB_eq N (fun z hz => by
        by_cases e : z = j
        · rw [e, hv, Bool.true_or, Bool.true_or]
        · rw [hQs z e])
      rw [e1, e2]
      exact q5
    | false =>
      have hL : L x' = false := by
        cases h : L x' with
        | false => rfl
        | true => rw [hCl x' j hx' hj h hB'.2] at hv; exact absurd hv (by decide)
      have e1 : cB (fun z => L z || cP B (rset Fm j x) i z) N = cB (fun z => L z || cP B Fm i z) N + 1 := cB_1 (i := x') (by rw [hL, hP0]; rfl) (by rw [hP1, Bool.or_true]) N hx' (fun z hz hn => by rw [hPs z hz hn])
      have e2 : cB (fun y => V y || cQ (rset Fm j x) y) N = cB (fun y => V y || cQ Fm y) N + 1 := cB_1 (i := j) (by rw [hv, hQ0]; rfl) (by rw [hQ1, Bool.or_true]) N hj (fun z hz hn => by rw [hQs z hn])
      omega
