/-! rows of the pure machine that touch the heap, calls and returns -/
theorem fldset {ad : Int → Nat} {row row' : Int → Int} {fl : List (Nat × Int)} {j : Nat} {v : Value} {f : Nat × Int} (hf : fl[j]? = some f) (hv : fldV ad row' j f = v) (ho : ∀ i : Nat, i ≠ j → row' i = row i) : fl.mapIdx (fldV ad row') = (fl.mapIdx (fldV ad row)).set j v := by
  apply List.ext_getElem?
  intro a
  rw [List.getElem?_set, List.getElem?_mapIdx, List.getElem?_mapIdx, List.length_mapIdx]
  by_cases ha : j = a
  · subst ha
    rw [if_pos rfl, if_pos (List.getElem?_eq_some_iff.mp hf).1, hf, ← hv]; rfl
  · rw [if_neg ha]
    cases h : fl[a]? with
    | none => rfl
    | some g =>
      show some (fldV ad row' a g) = some (fldV ad row a g)
      unfold fldV
      rw [ho a (fun q => ha q.symm)]
def FD (nb : Nat) (c0 j0 : Int) (kind : Nat) (r : Int) (own : String) (idx : Nat) : Prop := ∃ (k j ci : Nat) (fl : List (Nat × Int)) (C : String) (T : u_T) (N : Nat), k < nb ∧ c0 = (k : Int) ∧ j0 = (j : Int) ∧ shps[k]? = some (3, ci, fl) ∧ fl[j]? = some (kind, r) ∧ vwCl[ci]? = some (C, T, N) ∧ (∀ w ∈ u_ws C T N, w ∈ gtb) ∧ j < N ∧ Cond.fieldLink own idx (T j).1 (T j).2.1 (T j).2.2.1 ∈ gtb
def PD (nb : Nat) (c0 j0 : Int) (kind : Nat) (ty : FieldType) (own : String) (idx : Nat) : Prop := ∃ (k j ci : Nat) (fl : List (Nat × Int)) (C : String) (T : u_T) (N : Nat) (ty0 : Nat → FieldType), k < nb ∧ c0 = (k : Int) ∧ j0 = (j : Int) ∧ shps[k]? = some (3, ci, fl) ∧ fl[j]? = some (kind, 0) ∧ vwCl[ci]? = some (C, T, N) ∧ (∀ w ∈ u_ws C T N, w ∈ gtb) ∧ j < N ∧ Cond.fieldLink own idx (T j).1 (T j).2.1 (T j).2.2.1 ∈ gtb ∧ (∀ k, k < N → parseFieldDescriptor (T k).2.2.1 = some (ty0 k)) ∧ (∀ a, a < N → ∀ b, b < N → a ≠ b → (T a).2.1 ≠ (T b).2.1) ∧ (T j).2.2.2 = false ∧ parseFieldDescriptor (T j).2.2.1 = some ty
theorem fld_at {ad : Int → Nat} {row : Int → Int} {fl : List (Nat × Int)} {j : Nat} {f : Nat × Int} (hf : fl[j]? = some f) : (fl.mapIdx (fldV ad row))[j]? = some (fldV ad row j f) := by
  rw [List.getElem?_mapIdx, hf]; rfl
section RH
variable {l : Launch} {x : WX} {cc : ByteArray} {own : String} {nL : Nat} {R : Room} {nb : Nat} {G : GT} {pc pc' : Nat} {lv : List (Nat × AV)} {st stk : List AV} {mem : Mem}
theorem g_getI {idx : Nat} {c0 j0 : Int} (X : Ax l x cc own nL R nb G) (hd : De cc pc (.getfield idx) 3 pc') (F : FD nb c0 j0 0 0 own idx) (kk : G pc' lv ((0, mem c0 j0) :: st) mem) : G pc lv ((2, c0) :: st) mem := by
  obtain ⟨p, e, s, m, args, below, meth, c, Q, A, H0, kc, ks, rfl, hx, hb, hml, hown, hts, hX, hA1, hA2, hkc, hks⟩ := X
  obtain ⟨hd, rfl⟩ := hd
  obtain ⟨k, j, ci, fl, C, T, N, hkb, rfl, rfl, h1, h2, h3, h4, h5, h6⟩ := F
  intro hlv hst hM H locs ls hls hP hS
  have hr : r32 (mem k j) := ((hM k _ h1) j _ h2).1 rfl
  exact va_get hx hb hts h4 hown hX.1 hP k (wl_get x mem h1 (Nat.lt_of_lt_of_le hkb hX.2.2)) h3 j h5 (hts _ h6) (fun _ h9 => h9) (fld_at h2) hd (kk hlv (ok_c (v := (0, mem k j)) hr (ok_t hst)) hM H locs ls hls hP hS)
theorem g_getJ {idx : Nat} {c0 j0 : Int} (X : Ax l x cc own nL R nb G) (hd : De cc pc (.getfield idx) 3 pc') (F : FD nb c0 j0 1 0 own idx) (kk : G pc' lv ((1, mem c0 j0) :: st) mem) : G pc lv ((2, c0) :: st) mem := by
  obtain ⟨p, e, s, m, args, below, meth, c, Q, A, H0, kc, ks, rfl, hx, hb, hml, hown, hts, hX, hA1, hA2, hkc, hks⟩ := X
  obtain ⟨hd, rfl⟩ := hd
  obtain ⟨k, j, ci, fl, C, T, N, hkb, rfl, rfl, h1, h2, h3, h4, h5, h6⟩ := F
  intro hlv hst hM H locs ls hls hP hS
  have hr : r64 (mem k j) := ((hM k _ h1) j _ h2).2 rfl
  exact va_get hx hb hts h4 hown hX.1 hP k (wl_get x mem h1 (Nat.lt_of_lt_of_le hkb hX.2.2)) h3 j h5 (hts _ h6) (fun _ h9 => h9) (fld_at h2) hd (kk hlv (ok_c (v := (1, mem k j)) hr (ok_t hst)) hM H locs ls hls hP hS)
theorem g_getR {idx : Nat} {c0 j0 : Int} {r : Int} (X : Ax l x cc own nL R nb G) (hd : De cc pc (.getfield idx) 3 pc') (F : FD nb c0 j0 2 r own idx) (kk : G pc' lv ((2, r) :: st) mem) : G pc lv ((2, c0) :: st) mem := by
  obtain ⟨p, e, s, m, args, below, meth, c, Q, A, H0, kc, ks, rfl, hx, hb, hml, hown, hts, hX, hA1, hA2, hkc, hks⟩ := X
  obtain ⟨hd, rfl⟩ := hd
  obtain ⟨k, j, ci, fl, C, T, N, hkb, rfl, rfl, h1, h2, h3, h4, h5, h6⟩ := F
  intro hlv hst hM H locs ls hls hP hS
  exact va_get hx hb hts h4 hown hX.1 hP k (wl_get x mem h1 (Nat.lt_of_lt_of_le hkb hX.2.2)) h3 j h5 (hts _ h6) (fun _ h9 => h9) (fld_at h2) hd (kk hlv (ok_c (v := (2, r)) trivial (ok_t hst)) hM H locs ls hls hP hS)
theorem CM_F {k j ci : Nat} {fl : List (Nat × Int)} {kind : Nat} {a : Int} (hM : CM mem) (h1 : shps[k]? = some (3, ci, fl)) (h2 : fl[j]? = some (kind, 0)) (ha : (kind = 0 → r32 a) ∧ (kind = 1 → r64 a)) : CM (mset mem k j a) := by
  intro q S hS
  by_cases hq : q = k
  · subst hq
    rw [h1] at hS; cases hS
    intro i f hf
    by_cases hi : i = j
    · subst hi
      rw [h2] at hf; cases hf
      rw [mset_same]; exact ha
    · rw [mset_i (fun q => hi (by omega))]
      exact hM _ _ h1 i f hf
  · rw [mset_c (fun e => hq (by omega))]
    exact hM q S hS
theorem g_put {idx kind : Nat} {c0 j0 a : Int} {ty : FieldType} (hkind : kind = 0 ∨ kind = 1) (hnar : narrow ty (cv x.2.2 (kind, a)) = cv x.2.2 (kind, a)) (hfit : fits ty (cv x.2.2 (kind, a)) = true) (X : Ax l x cc own nL R nb G) (hd : De cc pc (.putfield idx) 3 pc') (F : PD nb c0 j0 kind ty own idx) (kk : G pc' lv st (mset mem c0 j0 a)) : G pc lv ((kind, a) :: (2, c0) :: st) mem := by
  obtain ⟨p, e, s, m, args, below, meth, c, Q, A, H0, kc, ks, rfl, hx, hb, hml, hown, hts, hX, hA1, hA2, hkc, hks⟩ := X
  obtain ⟨hd, rfl⟩ := hd
  obtain ⟨k, j, ci, fl, C, T, N, ty0, hkb, rfl, rfl, h1, h2, h3, h4, h5, h6, h7, h8, h9, h10⟩ := F
  intro hlv hst hM H locs ls hls hP hS
  have hr : (kind = 0 → r32 a) ∧ (kind = 1 → r64 a) := by
    have := ok_h hst
    constructor
    · intro q; subst q; exact this
    · intro q; subst q; exact this
  refine va_put hx hb hts h4 ty0 h7 h8 hown hX.1 hP (wl_D hX.2.1 hA1 mem) hS k (wl_get x mem h1 (Nat.lt_of_lt_of_le hkb hX.2.2)) h3 j h5 (hts _ h6) (fun _ h9 => h9) h9 h10 hnar hfit (by rw [List.length_mapIdx]; exact (List.getElem?_eq_some_iff.mp h2).1) hd (fun H1 locs1 hP1 _ hS1 => ?_)
  have e : (wl x mem).set k (x.2.2 k, .inr (ci, (fl.mapIdx (fldV x.2.2 (mem k))).set j (cv x.2.2 (kind, a)))) = wl x (mset mem k j a) := by
    refine wl_set h1 (Nat.lt_of_lt_of_le hkb hX.2.2) ?_
    show (x.2.2 k, Sum.inr (ci, fl.mapIdx (fldV x.2.2 (mset mem k j a k)))) = _
    rw [fldset (row := mem k) (v := cv x.2.2 (kind, a)) h2 ?_ (fun i hi => mset_i (fun q => hi (by omega)))]
    rcases hkind with rfl | rfl
    · show Value.int (Int32.ofInt (mset mem k j a k j)) = _
      rw [mset_same]; rfl
    · show Value.long (Int64.ofInt (mset mem k j a k j)) = _
      rw [mset_same]; rfl
  exact kk hlv (ok_t (ok_t hst)) (CM_F hM h1 h2 hr) H1 locs1 ls hls (e ▸ hP1) hS1
theorem g_putI {idx : Nat} {c0 j0 a : Int} (X : Ax l x cc own nL R nb G) (hd : De cc pc (.putfield idx) 3 pc') (F : PD nb c0 j0 0 .int own idx) (kk : ∀ m' : Mem, m' = mset mem c0 j0 a → G pc' lv st m') : G pc lv ((0, a) :: (2, c0) :: st) mem := g_put (Or.inl rfl) rfl rfl X hd F (kk _ rfl)
theorem g_putJ {idx : Nat} {c0 j0 a : Int} (X : Ax l x cc own nL R nb G) (hd : De cc pc (.putfield idx) 3 pc') (F : PD nb c0 j0 1 .long own idx) (kk : ∀ m' : Mem, m' = mset mem c0 j0 a → G pc' lv st m') : G pc lv ((1, a) :: (2, c0) :: st) mem := g_put (Or.inr rfl) rfl rfl X hd F (kk _ rfl)
theorem g_putZ {idx : Nat} {c0 j0 a : Int} (X : Ax l x cc own nL R nb G) (hd : De cc pc (.putfield idx) 3 pc') (F : PD nb c0 j0 0 .boolean own idx) (hz : a = 0 ∨ a = 1) (kk : ∀ m' : Mem, m' = mset mem c0 j0 a → G pc' lv st m') : G pc lv ((0, a) :: (2, c0) :: st) mem := by
  refine g_put (ty := .boolean) (Or.inl rfl) ?_ ?_ X hd F (kk _ rfl)
  · rcases hz with rfl | rfl
    · show narrow .boolean (.int (Int32.ofInt 0)) = .int (Int32.ofInt 0); decide
    · show narrow .boolean (.int (Int32.ofInt 1)) = .int (Int32.ofInt 1); decide
  · rcases hz with rfl | rfl
    · show fits .boolean (.int (Int32.ofInt 0)) = true; decide
    · show fits .boolean (.int (Int32.ofInt 1)) = true; decide
theorem alen_at {nb : Nat} {c i : Int} (h : 0 ≤ i ∧ i < alen nb c) : ∃ (k n : Nat) (fl : List (Nat × Int)), k < nb ∧ c = (k : Int) ∧ shps[k]? = some (0, n, fl) ∧ i < n := by
  unfold alen at h
  split at h
  · rename_i n fl hs
    split at h
    · rename_i h0
      exact ⟨c.toNat, n, fl, by omega, by omega, hs, h.2⟩
    · omega
  · omega
theorem jlen_at {nb : Nat} {c i : Int} (h : 0 ≤ i ∧ i < jlen nb c) : ∃ (k n : Nat) (fl : List (Nat × Int)), k < nb ∧ c = (k : Int) ∧ shps[k]? = some (1, n, fl) ∧ i < n := by
  unfold jlen at h
  split at h
  · rename_i n fl hs
    split at h
    · rename_i h0
      exact ⟨c.toNat, n, fl, by omega, by omega, hs, h.2⟩
    · omega
  · omega
theorem blen_at {nb : Nat} {c i : Int} (h : 0 ≤ i ∧ i < blen nb c) : ∃ (k n : Nat) (fl : List (Nat × Int)), k < nb ∧ c = (k : Int) ∧ shps[k]? = some (2, n, fl) ∧ i < n := by
  unfold blen at h
  split at h
  · rename_i n fl hs
    split at h
    · rename_i h0
      exact ⟨c.toNat, n, fl, by omega, by omega, hs, h.2⟩
    · omega
  · omega
theorem g_iald {c i n : Int} (X : Ax l x cc own nL R nb G) (hd : De cc pc .iaload 1 pc') (hn : alen nb c = n) (hi : 0 ≤ i ∧ i < n) (kk : G pc' lv ((0, mem c i) :: st) mem) : G pc lv ((0, i) :: (2, c) :: st) mem := by
  obtain ⟨p, e, s, m, args, below, meth, c, Q, A, H0, kc, ks, rfl, hx, hb, hml, hown, hts, hX, hA1, hA2, hkc, hks⟩ := X
  obtain ⟨hd, rfl⟩ := hd
  subst hn
  obtain ⟨k, n, fl, hkb, rfl, h1, h2⟩ := alen_at hi
  intro hlv hst hM H locs ls hls hP hS
  have hri : r32 i := ok_h hst
  have h := kk hlv (ok_c (v := (0, mem k i)) (hM k _ h1 i) (ok_t (ok_t hst))) hM H locs ls hls hP hS
  refine va_iald hx hb hX.1 hP k 0 (wl_get x mem h1 (Nat.lt_of_lt_of_le hkb hX.2.2)) rfl (vin_i hri ⟨hi.1, h2⟩) hd ?_
  rw [nc_i hri hi.1]
  show W p l e R s m args below meth c H locs kc ks Q (F0 m (pc + 1) ls (.int (Int32.ofInt (mem k (i.toNat : Int))) :: st.map (cv x.2.2)))
  rw [Int.toNat_of_nonneg hi.1]
  exact h
theorem g_bald {c i n : Int} (X : Ax l x cc own nL R nb G) (hd : De cc pc .baload 1 pc') (hn : blen nb c = n) (hi : 0 ≤ i ∧ i < n) (kk : G pc' lv ((0, mem c i) :: st) mem) : G pc lv ((0, i) :: (2, c) :: st) mem := by
  obtain ⟨p, e, s, m, args, below, meth, c, Q, A, H0, kc, ks, rfl, hx, hb, hml, hown, hts, hX, hA1, hA2, hkc, hks⟩ := X
  obtain ⟨hd, rfl⟩ := hd
  subst hn
  obtain ⟨k, n, fl, hkb, rfl, h1, h2⟩ := blen_at hi
  intro hlv hst hM H locs ls hls hP hS
  have hri : r32 i := ok_h hst
  have h := kk hlv (ok_c (v := (0, mem k i)) (r8_32 (hM k _ h1 i)) (ok_t (ok_t hst))) hM H locs ls hls hP hS
  refine va_bald hx hb hX.1 hP k 2 (wl_get x mem h1 (Nat.lt_of_lt_of_le hkb hX.2.2)) rfl (vin_i hri ⟨hi.1, h2⟩) hd ?_
  rw [nc_i hri hi.1]
  show W p l e R s m args below meth c H locs kc ks Q (F0 m (pc + 1) ls (.int (Int32.ofInt (mem k (i.toNat : Int))) :: st.map (cv x.2.2)))
  rw [Int.toNat_of_nonneg hi.1]
  exact h
theorem g_lald {c i n : Int} (X : Ax l x cc own nL R nb G) (hd : De cc pc .laload 1 pc') (hn : jlen nb c = n) (hi : 0 ≤ i ∧ i < n) (kk : G pc' lv ((1, mem c i) :: st) mem) : G pc lv ((0, i) :: (2, c) :: st) mem := by
  obtain ⟨p, e, s, m, args, below, meth, c, Q, A, H0, kc, ks, rfl, hx, hb, hml, hown, hts, hX, hA1, hA2, hkc, hks⟩ := X
  obtain ⟨hd, rfl⟩ := hd
  subst hn
  obtain ⟨k, n, fl, hkb, rfl, h1, h2⟩ := jlen_at hi
  intro hlv hst hM H locs ls hls hP hS
  have hri : r32 i := ok_h hst
  have h := kk hlv (ok_c (v := (1, mem k i)) (hM k _ h1 i) (ok_t (ok_t hst))) hM H locs ls hls hP hS
  refine va_lald hx hb hX.1 hP k 1 (wl_get x mem h1 (Nat.lt_of_lt_of_le hkb hX.2.2)) rfl (vin_i hri ⟨hi.1, h2⟩) hd ?_
  rw [nc_i hri hi.1]
  show W p l e R s m args below meth c H locs kc ks Q (F0 m (pc + 1) ls (.long (Int64.ofInt (mem k (i.toNat : Int))) :: st.map (cv x.2.2)))
  rw [Int.toNat_of_nonneg hi.1]
  exact h
theorem CM_A {k n kd : Nat} {fl : List (Nat × Int)} {i a : Int} (hM : CM mem) (h1 : shps[k]? = some (kd, n, fl)) (hkd : kd = 0 ∨ kd = 1 ∨ kd = 2) (ha : (kd = 0 → r32 a) ∧ (kd = 1 → r64 a) ∧ (kd = 2 → r8 a)) : CM (mset mem k i a) := by
  intro q S hS
  by_cases hq : q = k
  · subst hq
    rw [h1] at hS; cases hS
    have h0 := hM _ _ h1
    rcases hkd with rfl | rfl | rfl
    · intro j
      by_cases hj : j = i
      · subst hj; rw [mset_same]; exact ha.1 rfl
      · rw [mset_i hj]; exact h0 j
    · intro j
      by_cases hj : j = i
      · subst hj; rw [mset_same]; exact ha.2.1 rfl
      · rw [mset_i hj]; exact h0 j
    · intro j
      by_cases hj : j = i
      · subst hj; rw [mset_same]; exact ha.2.2 rfl
      · rw [mset_i hj]; exact h0 j
  · rw [mset_c (fun e => hq (by omega))]
    exact hM q S hS
theorem upd_row {k : Nat} {i a : Int} (hi : 0 ≤ i) : (fun j : Nat => Int32.ofInt (mset mem k i a k (j : Int))) = upd (fun j : Nat => Int32.ofInt (mem k (j : Int))) i.toNat (Int32.ofInt a) := by
  funext j
  unfold upd
  by_cases hj : j = i.toNat
  · rw [if_pos hj, show ((j : Nat) : Int) = i by omega, mset_same]
  · rw [if_neg hj, mset_i (fun q => hj (by omega))]
theorem updL_row {k : Nat} {i a : Int} (hi : 0 ≤ i) : (fun j : Nat => Int64.ofInt (mset mem k i a k (j : Int))) = vp_updL (fun j : Nat => Int64.ofInt (mem k (j : Int))) i.toNat (Int64.ofInt a) := by
  funext j
  unfold vp_updL
  by_cases hj : j = i.toNat
  · rw [if_pos hj, show ((j : Nat) : Int) = i by omega, mset_same]
  · rw [if_neg hj, mset_i (fun q => hj (by omega))]
theorem g_iast {c i n a : Int} (X : Ax l x cc own nL R nb G) (hd : De cc pc .iastore 1 pc') (hn : alen nb c = n) (hi : 0 ≤ i ∧ i < n) (kk : ∀ m' : Mem, m' = mset mem c i a → G pc' lv st m') : G pc lv ((0, a) :: (0, i) :: (2, c) :: st) mem := by
  obtain ⟨p, e, s, m, args, below, meth, c, Q, A, H0, kc, ks, rfl, hx, hb, hml, hown, hts, hX, hA1, hA2, hkc, hks⟩ := X
  obtain ⟨hd, rfl⟩ := hd
  subst hn
  obtain ⟨k, n, fl, hkb, rfl, h1, h2⟩ := alen_at hi
  intro hlv hst hM H locs ls hls hP hS
  have hri : r32 i := ok_h (ok_t hst)
  have hra : r32 a := ok_h hst
  refine va_iast hx hb hX.1 hP (wl_D hX.2.1 hA1 mem) hS k 0 (wl_get x mem h1 (Nat.lt_of_lt_of_le hkb hX.2.2)) rfl (vin_i hri ⟨hi.1, h2⟩) hd (fun H1 locs1 hP1 _ hS1 => ?_)
  rw [nc_i hri hi.1] at hP1
  refine kk _ rfl hlv (ok_t (ok_t (ok_t hst))) (CM_A hM h1 (Or.inl rfl) ⟨fun _ => hra, nofun, nofun⟩) H1 locs1 ls hls ?_ hS1
  rw [← wl_set (mem := mem) (i := i) (v := a) h1 (Nat.lt_of_lt_of_le hkb hX.2.2) rfl]
  show va_P x.1 vwCl ((wl x mem).set k (x.2.2 k, .inl (x.2.1.1.1, n, .inl (fun j : Nat => Int32.ofInt (mset mem k i a k (j : Int)))))) H1
  rw [upd_row hi.1]
  exact hP1
theorem g_last {c i n a : Int} (X : Ax l x cc own nL R nb G) (hd : De cc pc .lastore 1 pc') (hn : jlen nb c = n) (hi : 0 ≤ i ∧ i < n) (kk : ∀ m' : Mem, m' = mset mem c i a → G pc' lv st m') : G pc lv ((1, a) :: (0, i) :: (2, c) :: st) mem := by
  obtain ⟨p, e, s, m, args, below, meth, c, Q, A, H0, kc, ks, rfl, hx, hb, hml, hown, hts, hX, hA1, hA2, hkc, hks⟩ := X
  obtain ⟨hd, rfl⟩ := hd
  subst hn
  obtain ⟨k, n, fl, hkb, rfl, h1, h2⟩ := jlen_at hi
  intro hlv hst hM H locs ls hls hP hS
  have hri : r32 i := ok_h (ok_t hst)
  have hra : r64 a := ok_h hst
  refine va_last hx hb hX.1 hP (wl_D hX.2.1 hA1 mem) hS k 1 (wl_get x mem h1 (Nat.lt_of_lt_of_le hkb hX.2.2)) rfl (vin_i hri ⟨hi.1, h2⟩) hd (fun H1 locs1 hP1 _ hS1 => ?_)
  rw [nc_i hri hi.1] at hP1
  refine kk _ rfl hlv (ok_t (ok_t (ok_t hst))) (CM_A hM h1 (Or.inr (Or.inl rfl)) ⟨nofun, fun _ => hra, nofun⟩) H1 locs1 ls hls ?_ hS1
  rw [← wl_set (mem := mem) (i := i) (v := a) h1 (Nat.lt_of_lt_of_le hkb hX.2.2) rfl]
  show va_P x.1 vwCl ((wl x mem).set k (x.2.2 k, .inl (x.2.1.1.2.1, n, .inr (.inl (fun j : Nat => Int64.ofInt (mset mem k i a k (j : Int))))))) H1
  rw [updL_row hi.1]
  exact hP1
theorem g_bast {c i n a : Int} (X : Ax l x cc own nL R nb G) (hd : De cc pc .bastore 1 pc') (hn : blen nb c = n) (hi : 0 ≤ i ∧ i < n) (kk : ∀ m' : Mem, m' = mset mem c i (w8 a) → G pc' lv st m') : G pc lv ((0, a) :: (0, i) :: (2, c) :: st) mem := by
  obtain ⟨p, e, s, m, args, below, meth, c, Q, A, H0, kc, ks, rfl, hx, hb, hml, hown, hts, hX, hA1, hA2, hkc, hks⟩ := X
  obtain ⟨hd, rfl⟩ := hd
  subst hn
  obtain ⟨k, n, fl, hkb, rfl, h1, h2⟩ := blen_at hi
  intro hlv hst hM H locs ls hls hP hS
  have hri : r32 i := ok_h (ok_t hst)
  have hra : r32 a := ok_h hst
  refine va_bast hx hb hX.1 hP (wl_D hX.2.1 hA1 mem) hS k 2 (wl_get x mem h1 (Nat.lt_of_lt_of_le hkb hX.2.2)) rfl (vin_i hri ⟨hi.1, h2⟩) hd (fun H1 locs1 hP1 _ hS1 => ?_)
  rw [nc_i hri hi.1, vp_nar_byte, o_i2b hra] at hP1
  refine kk _ rfl hlv (ok_t (ok_t (ok_t hst))) (CM_A hM h1 (Or.inr (Or.inr rfl)) ⟨nofun, nofun, fun _ => w8_r a⟩) H1 locs1 ls hls ?_ hS1
  rw [← wl_set (mem := mem) (i := i) (v := w8 a) h1 (Nat.lt_of_lt_of_le hkb hX.2.2) rfl]
  show va_P x.1 vwCl ((wl x mem).set k (x.2.2 k, .inl (x.2.1.1.2.2, n, .inl (fun j : Nat => Int32.ofInt (mset mem k i (w8 a) k (j : Int)))))) H1
  rw [upd_row hi.1]
  exact hP1
theorem g_alenI {c : Int} (X : Ax l x cc own nL R nb G) (hd : De cc pc .arraylength 1 pc') (hi : 0 < alen nb c) (kk : G pc' lv ((0, alen nb c) :: st) mem) : G pc lv ((2, c) :: st) mem := by
  obtain ⟨p, e, s, m, args, below, meth, c, Q, A, H0, kc, ks, rfl, hx, hb, hml, hown, hts, hX, hA1, hA2, hkc, hks⟩ := X
  obtain ⟨hd, rfl⟩ := hd
  obtain ⟨k, n, fl, hkb, rfl, h1, h2⟩ := alen_at ⟨Int.le_refl 0, hi⟩
  have hn : alen nb (k : Int) = (n : Int) := by
    unfold alen
    rw [show ((k : Int)).toNat = k by omega, h1]
    show (if (0 : Int) ≤ k ∧ (k : Int) < nb then (n : Int) else 0) = n
    rw [if_pos (by omega)]
  have hsm : ∀ S ∈ shps, S.2.1 < 1000 := by decide
  have hn2 : n < 1000 := hsm _ (List.mem_of_getElem? h1)
  intro hlv hst hM H locs ls hls hP hS
  rw [hn] at kk
  have h := kk hlv (ok_c (v := (0, (n : Int))) (show r32 n by unfold r32; omega) (ok_t hst)) hM H locs ls hls hP hS
  exact va_alen hx hb hX.1 hP k 0 (wl_get x mem h1 (Nat.lt_of_lt_of_le hkb hX.2.2)) rfl (Int32.ofInt_eq_ofNat (n := n)).symm hd h
theorem g_alenJ {c : Int} (X : Ax l x cc own nL R nb G) (hd : De cc pc .arraylength 1 pc') (hi : 0 < jlen nb c) (kk : G pc' lv ((0, jlen nb c) :: st) mem) : G pc lv ((2, c) :: st) mem := by
  obtain ⟨p, e, s, m, args, below, meth, c, Q, A, H0, kc, ks, rfl, hx, hb, hml, hown, hts, hX, hA1, hA2, hkc, hks⟩ := X
  obtain ⟨hd, rfl⟩ := hd
  obtain ⟨k, n, fl, hkb, rfl, h1, h2⟩ := jlen_at ⟨Int.le_refl 0, hi⟩
  have hn : jlen nb (k : Int) = (n : Int) := by
    unfold jlen
    rw [show ((k : Int)).toNat = k by omega, h1]
    show (if (0 : Int) ≤ k ∧ (k : Int) < nb then (n : Int) else 0) = n
    rw [if_pos (by omega)]
  have hsm : ∀ S ∈ shps, S.2.1 < 1000 := by decide
  have hn2 : n < 1000 := hsm _ (List.mem_of_getElem? h1)
  intro hlv hst hM H locs ls hls hP hS
  rw [hn] at kk
  have h := kk hlv (ok_c (v := (0, (n : Int))) (show r32 n by unfold r32; omega) (ok_t hst)) hM H locs ls hls hP hS
  exact va_alen hx hb hX.1 hP k 1 (wl_get x mem h1 (Nat.lt_of_lt_of_le hkb hX.2.2)) rfl (Int32.ofInt_eq_ofNat (n := n)).symm hd h
end RH
