/-! the law's own rows: its script, its end, its beginning -/
def AxL (l : Launch) (x : WX) (Ln : Int) (sc : Int → Int) (G : GT) : Prop :=
  ∃ (p : Program) (e : Env) (R : Room) (s : State) (m : MethodId) (args : Array Value) (below : List Frame) (meth : Method) (c : Code) (Q : State → Prop) (nL : Nat) (A : Nat → Prop) (kc ks b L : Nat) (xs : Nat → Int32),
    G = Gd p l e R s m args below meth c Q nL x A s.heap kc ks ∧ p.tables.exec = Jvm.exec ∧ c.code = cL_law ∧ va_X b L xs s s.heap ∧ b < s.heap.size ∧ ¬ A b ∧ x.2.2 1000 = b ∧ Ln = (L : Int) ∧ L ≤ 3584 ∧ ∀ i : Int, sc i = (xs i.toNat).toInt
section LR
variable {l : Launch} {x : WX} {Ln : Int} {sc : Int → Int} {G : GT} {pc pc' : Nat} {lv : List (Nat × AV)} {st : List AV} {mem : Mem}
theorem g_slen (X : AxL l x Ln sc G) (hd : De cL_law pc .arraylength 1 pc') (k : G pc' lv ((0, Ln) :: st) mem) : G pc lv ((2, 1000) :: st) mem := by
  obtain ⟨p, e, R, s, m, args, below, meth, c, Q, nL, A, kc, ks, b, L, xs, rfl, hx, hb, hX, hbl, hbA, had, rfl, hL, hsc⟩ := X
  obtain ⟨hd, rfl⟩ := hd
  intro hlv hst hM H locs ls hls hP hS
  have h := k hlv (ok_c (v := (0, (L : Int))) (show r32 L by unfold r32; omega) (ok_t hst)) hM H locs ls hls hP hS
  show W p l e R s m args below meth c H locs kc ks Q (F0 m pc ls (.ref (x.2.2 1000) :: st.map (cv x.2.2)))
  rw [had]
  refine va_slen hx hb hX hbl hbA hS hd ?_
  rw [← Int32.ofInt_eq_ofNat]
  exact h
theorem g_sld {i : Int} (X : AxL l x Ln sc G) (hd : De cL_law pc .iaload 1 pc') (hi : 0 ≤ i ∧ i < Ln) (k : G pc' lv ((0, sc i) :: st) mem) : G pc lv ((0, i) :: (2, 1000) :: st) mem := by
  obtain ⟨p, e, R, s, m, args, below, meth, c, Q, nL, A, kc, ks, b, L, xs, rfl, hx, hb, hX, hbl, hbA, had, rfl, hL, hsc⟩ := X
  obtain ⟨hd, rfl⟩ := hd
  intro hlv hst hM H locs ls hls hP hS
  have hri : r32 i := ok_h hst
  have h := k hlv (ok_c (v := (0, sc i)) (show r32 (sc i) by rw [hsc]; exact ti_r _) (ok_t (ok_t hst))) hM H locs ls hls hP hS
  show W p l e R s m args below meth c H locs kc ks Q (F0 m pc ls (.int (Int32.ofInt i) :: .ref (x.2.2 1000) :: st.map (cv x.2.2)))
  rw [had]
  refine va_sld hx hb hX hbl hbA hS (vin_i hri hi) hd ?_
  rw [nc_i hri hi.1]
  have e1 : Int32.ofInt (sc i) = xs i.toNat := by rw [hsc]; exact Int32.ofInt_toInt _
  rw [← e1]
  exact h
end LR
