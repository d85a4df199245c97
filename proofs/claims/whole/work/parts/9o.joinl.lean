/-! crews: the reference's search, its loops -/
theorem bq_last {F : Nat → Nat → Prop} {N i : Nat} {L V : Nat → Bool} {B A Fm Ln : Int → Int} {tau : Nat → Nat} {en : Nat} (hBi : B i = -1) (hQ : BQ F N i B A Fm Ln tau L V en) {a x j : Nat} (ha : a < en) (hx : Ln a = x) (hxN : x < N) (hj : j < N) (hj0 : Fm j = -1) (hF : F x j) {tau' : Nat → Nat} (tj : tau' j = en) (tn : ∀ y : Nat, y ≠ j → tau' y = tau y) (T : Nat) : TP F N i tau' B (rset Fm j x) T := by
  obtain ⟨q1, q2, q3, q4, q5⟩ := hQ
  have nx : ¬ (x : Int) = -1 := by omega
  have vis : ∀ y : Nat, ¬ Fm y = -1 → ¬ rset Fm j x y = -1 := fun y hy => by
    by_cases e : y = j
    · rw [e] at hy; exact absurd hj0 hy
    · rw [rset_ne (show ¬ (y : Int) = (j : Int) by omega)]; exact hy
  have nvis : ∀ y : Nat, ¬ Fm y = -1 → y ≠ j := fun y hy e => by rw [e] at hy; exact hy hj0
  intro y hy _ hv
  by_cases e : y = j
  · subst e
    refine ⟨x, hxN, rset_eq rfl, hF, ?_⟩
    obtain ⟨x2, hx2, w1, w2⟩ := q2 a ha
    have : x2 = x := by omega
    subst this
    rcases w2 with w2 | ⟨y', hy', w3, w4⟩
    · exact Or.inl ⟨w2, by rw [w2]; exact hBi⟩
    · refine Or.inr ⟨y', hy', w3, vis y' w4, ?_⟩
      rw [tj, tn y' (nvis y' w4)]
      rcases q1 y' hy' with v | v
      · exact absurd v w4
      · exact v.2.1
  · rw [rset_ne (show ¬ (y : Int) = (j : Int) by omega)] at hv ⊢
    rw [tn y e]
    rcases q1 y hy with v | ⟨⟨x2, h1, h2, h3, h4⟩, -⟩
    · exact absurd v hv
    · refine ⟨x2, h1, h2, h3, h4.elim (fun z => Or.inl ⟨z, by rw [z]; exact hBi⟩) (fun z => ?_)⟩
      obtain ⟨y', z1, z2, z3, z4⟩ := z
      exact Or.inr ⟨y', z1, z2, vis y' z3, by rw [tn y' (nvis y' z3)]; exact z4⟩
theorem mv_hole {F : Nat → Nat → Prop} {N : Nat} {B A : Int → Int} {j : Nat} (hM : MV F N B A (-1)) (hA : A j = -1) : MV F N B A j := by
  refine ⟨fun x hx => ?_, fun y hy _ => hM.2 y hy (by omega)⟩
  rcases hM.1 x hx with q | ⟨j2, h1, h2, h3, h4⟩
  · exact Or.inl q
  · refine Or.inr ⟨j2, h1, h2, fun w => ?_, h4⟩
    rw [w, hA] at h4
    omega
theorem cH_hole {A : Int → Int} {N j : Nat} (hj : j < N) (hA : A j = -1) : cH A (-1) N = cH A j N + 1 :=
  cB_1 (i := j) (decide_eq_false (fun w => w.1 rfl)) (decide_eq_true ⟨by omega, hA⟩) N hj (fun x _ hn => decide_eq_decide.mpr ⟨fun w => ⟨by omega, w.2⟩, fun w => ⟨by omega, w.2⟩⟩)
theorem sp_join {r0 : Mem} {N : Nat} {o e : Nat → Nat} {b rd : Nat → Int} (hD : DL r0 N o e b rd) {i : Nat} (hi : i < N) {r : Mem} (hf : FrJ r0 r) {L V : Nat → Bool} (hG : JG (Fol o e b rd) N i L V (r 91) (r 92)) {post : Int → Mem → Prop} (H1 : ∀ (r' : Mem) (L' V' : Nat → Bool), FrJ r0 r' → JG (Fol o e b rd) N (i + 1) L' V' (r' 91) (r' 92) → cH (r' 92) (-1) N + 1 = cH (r 92) (-1) N → post 1 r') (H0 : ∀ (r' : Mem) (L' V' : Nat → Bool), FrJ r0 r' → JG (Fol o e b rd) N (i + 1) L' V' (r' 91) (r' 92) → cH (r' 92) (-1) N = cH (r 92) (-1) N → post 0 r') : wp_X11_join i r post := by
  have h84 := hD.2.1
  have g41 : ∀ r' : Mem, FrJ r0 r' → r' 67 41 = N := fun r' hf' => by rw [hf' 67 41 (by decide)]; exact hD.1
  generalize hB : r 91 = B at hG
  generalize hA : r 92 = A at hG H1 H0
  have hMM := hG.1
  have hBi : B i = -1 := hG.2.1 i hi (Nat.le_refl _)
  have fr1 : ∀ (r' : Mem) (c k v : Int), (c = 93 ∨ c = 94) → FrJ r0 r' → FrJ r0 (mset r' c k v) := fun r' c k v hc hf' x k' hx => by
    rw [mset_ne (fun z => hx (by omega))]
    exact hf' x k' hx
  have inner : ∀ (K34 : Int → Int → Mem → Prop) (a : Nat), a < N → (∀ (r' : Mem) (tau : Nat → Nat) (en : Nat), FrJ r0 r' → r' 91 = B → r' 92 = A → BQ (Fol o e b rd) N i B A (r' 93) (r' 94) tau L V en → BC (Fol o e b rd) N (r' 93) (r' 94) (a + 1) → K34 en ((a + 1 : Nat) : Int) r') → ∀ (rem j : Nat) (r' : Mem) (tau : Nat → Nat) (en : Nat), j + rem = N → FrJ r0 r' → r' 91 = B → r' 92 = A → BQ (Fol o e b rd) N i B A (r' 93) (r' 94) tau L V en → a < en → BC (Fol o e b rd) N (r' 93) (r' 94) a → (∀ x : Nat, r' 94 a = x → ∀ y : Nat, y < j → Fol o e b rd x y → ¬ r' 93 y = -1) → wp_X11_join_42 K34 post (rem + 1) en a j r' := by
    intro K34 a haN hK rem
    induction rem with
    | zero =>
      intro j r' tau en hj hf' rB rA hQ ha hC hcur
      have : j = N := by omega
      subst this
      have nx := hK r' tau en hf' rB rA hQ (fun k hk x hx y hy hF => by
        by_cases c : k = a
        · subst c; exact hcur x hx y hy hF
        · exact hC k (by omega) x hx y hy hF)
      unfold wp_X11_join_42
      rw [g41 r' hf', i1 a (by omega)]
      exact bt (Int.le_refl _) nx
    | succ rem ih =>
      intro j r' tau en hj hf' rB rA hQ ha hC hcur
      have hjN : j < N := by omega
      have cj : 0 ≤ (j : Int) ∧ (j : Int) < 84 := by omega
      have ca : 0 ≤ (a : Int) ∧ (a : Int) < 84 := by omega
      have hjn : ¬ (N : Int) ≤ j := by omega
      have hj1 : j + 1 + rem = N := by omega
      obtain ⟨x, hxN, hx, hxor⟩ := hQ.2.1 a ha
      have nxi : ¬ (x : Int) = -1 := by omega
      have same : (Fol o e b rd x j → ¬ r' 93 j = -1) → wp_X11_join_42 K34 post (rem + 1) en a ((j + 1 : Nat) : Int) r' := fun q => ih (j + 1) r' tau en hj1 hf' rB rA hQ ha hC (fun x2 hx2 y hy hF => by
        by_cases c : y = j
        · subst c
          have : x2 = x := by omega
          subst this
          exact q hF
        · exact hcur x2 hx2 y (by omega) hF)
      unfold wp_X11_join_42
      rw [g41 r' hf', i1 j (by omega)]
      refine bf hjn ⟨cj, fun q => same (fun _ => q), fun q => ⟨ca, ?_⟩⟩
      rw [hx]
      refine sp_mayF hD hf' hxN hjN (fun hF => z1 ⟨ca, cj, eqm ⟨cj, ?_⟩⟩) (fun hF => z0 (same (fun z => absurd z hF)))
      rw [hx]
      have hf2 := fr1 r' 93 j x (Or.inl rfl) hf'
      have e91 : mset r' 93 j x 91 = B := by rw [mset_r (by decide)]; exact rB
      have e92 : mset r' 93 j x 92 = A := by rw [mset_r (by decide)]; exact rA
      have e93 : mset r' 93 j x 93 = rset (r' 93) j x := mset_s _ _ _ _
      have e94 : mset r' 93 j x 94 = r' 94 := mset_r (by decide)
      obtain ⟨tau', tj, tn⟩ : ∃ tau' : Nat → Nat, tau' j = en ∧ ∀ y : Nat, y ≠ j → tau' y = tau y := ⟨fun y => if y = j then en else tau y, if_pos rfl, fun y h => if_neg h⟩
      have vis : ∀ y : Nat, ¬ r' 93 y = -1 → ¬ rset (r' 93) j x y = -1 := fun y hy => by
        by_cases c : y = j
        · rw [c] at hy; exact absurd q hy
        · rw [rset_ne (show ¬ (y : Int) = (j : Int) by omega)]; exact hy
      rw [e92]
      rcases hMM.2 j hjN (by omega) with hA0 | ⟨x', hx', hA', hF', hB'⟩
      · refine nf hA0 ?_
        have tb := sp_tback (F := Fol o e b rd) (N := N) (i := i) h84 (L := L) (V := V) hG.2.2.2.1 (tau := tau') (r0 := mset r' 93 j x) (c := cH A j N) (post := fun m104 => post 1 m104) (fun r2 hf3 hM2 hK2 hc2 => by
          refine H1 r2 L V (fun y k hy => ?_) ⟨hM2, fun z hz hiz => hK2.1 z hz (by omega), hK2.2, hG.2.2.2.1, fun z hz hl => ?_, ?_⟩ ?_
          · rw [hf3 y k (by omega)]
            exact hf2 y k hy
          · have := hG.2.2.2.2.1 z hz hl
            omega
          · have := hG.2.2.2.2.2
            rw [cH_hole hjN hA0] at this
            omega
          · rw [hc2, cH_hole hjN hA0]) (tau' j + 1) j (mset r' 93 j x) (by omega) hjN (fun _ _ _ => rfl) (by rw [e91, e92]; exact mv_hole hMM hA0) (by rw [e91, e92]; exact ⟨fun z hz hiz => hG.2.1 z hz (by omega), hG.2.2.1⟩) (by rw [e92]) (by rw [mset_same]; exact nxi) (by
            cases hv : V j with
            | false => rfl
            | true =>
              obtain ⟨x2, h1, h2, h3⟩ := hG.2.2.1 j hjN hv
              omega) (by
            rw [e91, e93]
            exact bq_last hBi hQ ha hx hxN hjN q hF tj tn _)
        exact ⟨_, tb⟩
      · obtain ⟨hen, st⟩ := bq_step hi hG hQ ha hx hxN hjN q hF hx' hA' tj tn
        have cen : 0 ≤ (en : Int) ∧ (en : Int) < 84 := by omega
        rw [hA']
        refine nt (by omega) ⟨cj, cen, eqm ?_⟩
        rw [i1 en (by omega)]
        refine ih (j + 1) _ tau' (en + 1) hj1 (fr1 _ 94 en x' (Or.inr rfl) hf2) (by rw [mset_r (by decide)]; exact e91) (by rw [mset_r (by decide)]; exact e92) (by rw [mset_r (show ¬ (93 : Int) = 94 by decide), e93, mset_s, e94]; exact st) (by omega) ?_ ?_
        · rw [mset_r (show ¬ (93 : Int) = 94 by decide), e93, mset_s, e94]
          intro k hk x2 hx2 y hy hF2
          rw [rset_ne (by omega)] at hx2
          exact vis y (hC k hk x2 hx2 y hy hF2)
        · rw [mset_r (show ¬ (93 : Int) = 94 by decide), e93, mset_s, e94]
          intro x2 hx2 y hy hF2
          rw [rset_ne (by omega)] at hx2
          by_cases c : y = j
          · rw [c, rset_eq rfl]; exact nxi
          · exact vis y (hcur x2 hx2 y (by omega) hF2)
  have outer : ∀ (rem a : Nat) (r' : Mem) (tau : Nat → Nat) (en : Nat), a + rem = N → FrJ r0 r' → r' 91 = B → r' 92 = A → BQ (Fol o e b rd) N i B A (r' 93) (r' 94) tau L V en → BC (Fol o e b rd) N (r' 93) (r' 94) a → wp_X11_join_34 post (rem + 1) en a r' := by
    intro rem
    induction rem with
    | zero =>
      intro a r' tau en ha hf' rB rA hQ hC
      have hle := cB_le (cP B (r' 93) i) N
      have h4 := hQ.2.2.2.1
      unfold wp_X11_join_34
      refine bt (by omega) (H0 r' (fun x => L x || cP B (r' 93) i x) (fun y => V y || cQ (r' 93) y) hf' ?_ (by rw [rA]))
      rw [rA, rB]
      exact bq_fail hG hQ (fun k hk => hC k (by omega))
    | succ rem ih =>
      intro a r' tau en ha hf' rB rA hQ hC
      unfold wp_X11_join_34
      refine ⟨fun q => H0 r' (fun x => L x || cP B (r' 93) i x) (fun y => V y || cQ (r' 93) y) hf' ?_ (by rw [rA]), fun q => ⟨N + 1, ?_⟩⟩
      · rw [rA, rB]
        exact bq_fail hG hQ (fun k hk => hC k (by omega))
      · exact inner _ a (by omega) (fun r2 tau2 en2 hf2 rB2 rA2 hQ2 hC2 => ih (a + 1) r2 tau2 en2 (by omega) hf2 rB2 rA2 hQ2 hC2) N 0 r' tau en (by omega) hf' rB rA hQ (by omega) hC (fun x hx y hy => by omega)
  unfold wp_X11_join
  refine sp_jclear h84 (g41 r hf) (fun r1 hr1 hy1 => eqm ⟨N + 1, ?_⟩)
  have hf1 : FrJ r0 r1 := fun x k hx => by rw [hr1 x k (by omega)]; exact hf x k hx
  have e91 : mset r1 94 0 i 91 = B := by rw [mset_r (by decide), ← hB]; exact funext fun k => hr1 91 k (by decide)
  have e92 : mset r1 94 0 i 92 = A := by rw [mset_r (by decide), ← hA]; exact funext fun k => hr1 92 k (by decide)
  refine outer N 0 _ (fun _ => 0) 1 (by omega) (fr1 r1 94 0 i (Or.inr rfl) hf1) e91 e92 ?_ (fun k hk => by omega)
  refine bq_0 hi hG (fun y hy => ?_) (mset_same _ _ _ _)
  rw [mset_r (by decide)]
  exact hy1 y hy
