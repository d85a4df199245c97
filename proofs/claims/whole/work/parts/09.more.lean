/-! Math.max, Math.min, System.arraycopy -/
def mcpy (mem : Mem) (c0 sp c1 dp n : Int) : Mem := fun c i => if c = c1 ∧ dp ≤ i ∧ i < dp + n then mem c0 (sp + (i - dp)) else mem c i
theorem mcpy_row {mem : Mem} {k0 k1 : Nat} {sp dp n : Int} (c1 : 0 ≤ sp) (c2 : 0 ≤ dp) (c3 : 0 ≤ n) : (fun j : Nat => Int32.ofInt (mcpy mem k0 sp k1 dp n k1 (j : Int))) = va_cpy (fun j : Nat => Int32.ofInt (mem k0 (j : Int))) (fun j : Nat => Int32.ofInt (mem k1 (j : Int))) sp.toNat dp.toNat n.toNat := by
  funext j
  by_cases hj : dp.toNat ≤ j ∧ j < dp.toNat + n.toNat
  · rw [pk_cpy_in hj.1 hj.2]
    have e2 : mcpy mem k0 sp k1 dp n k1 (j : Int) = mem k0 (sp + ((j : Int) - dp)) := by
      unfold mcpy
      rw [if_pos ⟨rfl, by omega, by omega⟩]
    have e3 : sp + ((j : Int) - dp) = ((sp.toNat + (j - dp.toNat) : Nat) : Int) := by omega
    rw [e2, e3]
  · rw [pk_cpy_out (by omega)]
    have e2 : mcpy mem k0 sp k1 dp n k1 (j : Int) = mem k1 (j : Int) := by
      unfold mcpy
      rw [if_neg (fun z => hj (by omega))]
    rw [e2]
section MO
variable {l : Launch} {x : WX} {cc : ByteArray} {own : String} {nL : Nat} {R : Room} {nb : Nat} {G : GT} {pc pc' : Nat} {lv : List (Nat × AV)} {st stk : List AV} {mem : Mem} {idx : Nat}
theorem g_max {a b : Int} (X : Ax l x cc own nL R nb G) (hd : De cc pc (.invokestatic idx) 3 pc') (h1 : Cond.methodLink own idx Lib.Math.max.name ∈ gtb) (h2 : Cond.static Lib.Math.max.name ∈ gtb) (h3 : Cond.initialized "java/lang/Math" ∈ gtb) (h4 : Cond.code Lib.Math.max.name Lib.Math.max.code 2 (some .int) ∈ gtb) (hR : 1 ≤ R.frames) (hw : ((st.map (cv x.2.2)).map fun v => v.category).sum + 13 ≤ R.locals) (kk : G pc' lv ((0, if a < b then b else a) :: st) mem) : G pc lv ((0, b) :: (0, a) :: st) mem := by
  obtain ⟨p, e, s, m, args, below, meth, c, Q, A, H0, kc, ks, rfl, hx, hb, hml, hown, hts, hX, hA1, hA2, hkc, hks⟩ := X
  obtain ⟨hd, rfl⟩ := hd
  intro hlv hst hM H locs ls hls hP hS
  have ha : r32 a := ok_h (ok_t hst)
  have hb2 : r32 b := ok_h hst
  have h := kk hlv (ok_c (v := (0, if a < b then b else a)) (show r32 _ by split; exact hb2; exact ha) (ok_t (ok_t hst))) hM H locs ls hls hP hS
  refine va_mmax hx hb (hml.trans hls.1.symm) hown (hts _ h1) (hts _ h2) (hts _ h3) (hts _ h4) hR hw hkc hks hd ?_
  have e : Int32.ofInt (if a < b then b else a) = if Int32.ofInt a < Int32.ofInt b then Int32.ofInt b else Int32.ofInt a := by
    by_cases q : a < b
    · rw [if_pos q, if_pos ((oi_lt ha hb2).mpr q)]
    · rw [if_neg q, if_neg (fun z => q ((oi_lt ha hb2).mp z))]
  rw [← e]; exact h
theorem g_min {a b : Int} (X : Ax l x cc own nL R nb G) (hd : De cc pc (.invokestatic idx) 3 pc') (h1 : Cond.methodLink own idx Lib.Math.min.name ∈ gtb) (h2 : Cond.static Lib.Math.min.name ∈ gtb) (h3 : Cond.initialized "java/lang/Math" ∈ gtb) (h4 : Cond.code Lib.Math.min.name Lib.Math.min.code 2 (some .int) ∈ gtb) (hR : 1 ≤ R.frames) (hw : ((st.map (cv x.2.2)).map fun v => v.category).sum + 13 ≤ R.locals) (kk : G pc' lv ((0, if b < a then b else a) :: st) mem) : G pc lv ((0, b) :: (0, a) :: st) mem := by
  obtain ⟨p, e, s, m, args, below, meth, c, Q, A, H0, kc, ks, rfl, hx, hb, hml, hown, hts, hX, hA1, hA2, hkc, hks⟩ := X
  obtain ⟨hd, rfl⟩ := hd
  intro hlv hst hM H locs ls hls hP hS
  have ha : r32 a := ok_h (ok_t hst)
  have hb2 : r32 b := ok_h hst
  have h := kk hlv (ok_c (v := (0, if b < a then b else a)) (show r32 _ by split; exact hb2; exact ha) (ok_t (ok_t hst))) hM H locs ls hls hP hS
  refine va_mmin hx hb (hml.trans hls.1.symm) hown (hts _ h1) (hts _ h2) (hts _ h3) (hts _ h4) hR hw hkc hks hd ?_
  have e : Int32.ofInt (if b < a then b else a) = if Int32.ofInt b < Int32.ofInt a then Int32.ofInt b else Int32.ofInt a := by
    by_cases q : b < a
    · rw [if_pos q, if_pos ((oi_lt hb2 ha).mpr q)]
    · rw [if_neg q, if_neg (fun z => q ((oi_lt hb2 ha).mp z))]
  rw [← e]; exact h
theorem g_copy {c0 c1 sp dp n n0 n1 : Int} (X : Ax l x cc own nL R nb G) (hd : De cc pc (.invokestatic idx) 3 pc') (h1 : Cond.methodLink own idx arraycopyName ∈ gtb) (h2 : Cond.native arraycopyName ∈ gtb) (h3 : Cond.static arraycopyName ∈ gtb) (h4 : Cond.initialized "java/lang/System" ∈ gtb) (hR : 1 ≤ R.frames) (hw : ((st.map (cv x.2.2)).map fun v => v.category).sum + (nativeFrameWords "java/lang/System" "arraycopy" 5 + 11) ≤ R.locals) (hn0 : alen nb c0 = n0) (hn1 : alen nb c1 = n1) (hp0 : 0 < n0) (hp1 : 0 < n1)
    (hc : 0 ≤ sp ∧ 0 ≤ dp ∧ 0 ≤ n ∧ sp + n ≤ n0 ∧ dp + n ≤ n1) (kk : ∀ m' : Mem, m' = mcpy mem c0 sp c1 dp n → G pc' lv st m') : G pc lv ((0, n) :: (0, dp) :: (2, c1) :: (0, sp) :: (2, c0) :: st) mem := by
  obtain ⟨p, e, s, m, args, below, meth, c, Q, A, H0, kc, ks, rfl, hx, hb, hml, hown, hts, hX, hA1, hA2, hkc, hks⟩ := X
  obtain ⟨hd, rfl⟩ := hd
  subst hn0; subst hn1
  obtain ⟨k0, l0, fl0, hb0, rfl, hk0, hq0⟩ := alen_at ⟨Int.le_refl 0, hp0⟩
  obtain ⟨k1, l1, fl1, hb1, rfl, hk1, hq1⟩ := alen_at ⟨Int.le_refl 0, hp1⟩
  have e0 : alen nb (k0 : Int) = (l0 : Int) := by
    unfold alen
    rw [show ((k0 : Int)).toNat = k0 by omega, hk0]
    show (if (0 : Int) ≤ k0 ∧ (k0 : Int) < nb then (l0 : Int) else 0) = l0
    rw [if_pos (by omega)]
  have e1 : alen nb (k1 : Int) = (l1 : Int) := by
    unfold alen
    rw [show ((k1 : Int)).toNat = k1 by omega, hk1]
    show (if (0 : Int) ≤ k1 ∧ (k1 : Int) < nb then (l1 : Int) else 0) = l1
    rw [if_pos (by omega)]
  rw [e0, e1] at hc
  obtain ⟨c1, c2, c3, c4, c5⟩ := hc
  intro hlv hst hM H locs ls hls hP hS
  have rn : r32 n := ok_h hst
  have rdp : r32 dp := ok_h (ok_t hst)
  have rsp : r32 sp := ok_h (ok_t (ok_t (ok_t hst)))
  refine va_copyi hx hb (hml.trans hls.1.symm) hown (hts _ h1) (hts _ h2) (hts _ h3) (hts _ h4) hX.1 hP (wl_D hX.2.1 hA1 mem) hS k0 k1 0 0 (wl_get x mem hk0 (Nat.lt_of_lt_of_le hb0 hX.2.2)) (wl_get x mem hk1 (Nat.lt_of_lt_of_le hb1 hX.2.2)) rfl rfl rfl (fun q => by have := (oi_lt0 rsp).mp q; omega) (fun q => by have := (oi_lt0 rdp).mp q; omega) (fun q => by have := (oi_lt0 rn).mp q; omega) ?_ ?_ (fun _ _ => rfl) hR hw hd (fun H1 locs1 hP1 _ hS1 => ?_)
  · rw [nc_i rsp c1, nc_i rn c3]
    show sp.toNat + n.toNat ≤ l0
    omega
  · rw [nc_i rdp c2, nc_i rn c3]
    show dp.toNat + n.toNat ≤ l1
    omega
  · rw [nc_i rsp c1, nc_i rn c3, nc_i rdp c2] at hP1
    have hrow : ∀ j : Int, r32 (mcpy mem k0 sp k1 dp n k1 j) := by
      intro j
      unfold mcpy
      split
      · exact hM k0 _ hk0 _
      · exact hM k1 _ hk1 _
    have hoth : ∀ q : Int, q ≠ (k1 : Int) → mcpy mem k0 sp k1 dp n q = mem q := by
      intro q hq
      funext j
      unfold mcpy
      rw [if_neg (fun z => hq z.1)]
    have hCM : CM (mcpy mem k0 sp k1 dp n) := by
      intro q S hq
      by_cases e : q = k1
      · subst e
        rw [hk1] at hq; cases hq
        exact hrow
      · rw [hoth q (fun z => e (by omega))]
        exact hM q S hq
    refine kk _ rfl hlv (ok_t (ok_t (ok_t (ok_t (ok_t hst))))) hCM H1 locs1 ls hls ?_ hS1
    have ew : (wl x mem).set k1 (cellR x k1 (mcpy mem k0 sp k1 dp n k1) (0, l1, fl1)) = wl x (mcpy mem k0 sp k1 dp n) := wls_set (tk hk1 (Nat.lt_of_lt_of_le hb1 hX.2.2)) rfl (fun a ha => hoth a (fun q => ha (by omega)))
    rw [← ew]
    show va_P x.1 vwCl ((wl x mem).set k1 (x.2.2 k1, .inl (x.2.1.1.1, l1, .inl (fun j : Nat => Int32.ofInt (mcpy mem k0 sp k1 dp n k1 (j : Int)))))) H1
    rw [mcpy_row c1 c2 c3]
    exact hP1
end MO
