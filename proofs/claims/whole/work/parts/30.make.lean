/-! constructors: the world grows, cell by cell; the n-th cell that is made lies at base + n -/
abbrev GTc : Type := Nat → Nat → Nat → List (Nat × AV) → List AV → List Shp → Mem → Prop
def Gc (p : Program) (l : Launch) (e : Env) (R : Room) (s : State) (m : MethodId) (args : Array Value) (below : List Frame) (meth : Method) (c : Code) (Q : State → Prop) (nL : Nat) (x : WX) (A : Nat → Prop) (H0 : Heap) : GTc :=
  fun kc ks pc lv st sh mem => (∀ q ∈ lv, ok q.2) → (∀ v ∈ st, ok v) → CM mem → ∀ (H : Heap) (locs : List Loc) (ls : Array Slot), lv_has ls nL (lv.map (cvl x.2.2)) → va_P x.1 vwCl (wls x sh mem) H → va_S A H0 H locs →
    W p l e R s m args below meth c H locs kc ks Q (F0 m pc ls (st.map (cv x.2.2)))
def nests : List (Nat × MethodName) := [(9, yX3_init), (18, yX6_init), (25, yX0_init), (32, yX8_init), (39, yX9_init), (46, yX7_init), (53, yX5_init), (60, yX2_init), (67, yX4_init), (74, yX1_init)]
def NW (s : State) : Prop := ∀ q ∈ nests, va_Nw (.methodLinkNest RX10 q.1 q.2 RX10) s
theorem NW.warm {s U : State} (hW : s.WarmedH U.vm) (h : NW s) : NW U := fun q hq => (h q hq).warmM hW
theorem NW.same {s U : State} (hv : s.vm = U.vm) (h : NW s) : NW U := fun q hq => (h q hq).same rfl hv
def Xad (x : WX) (base : Nat) : Prop := xN x = 106 ∧ ∀ k : Nat, k < 106 → x.2.2 (k : Int) = base + k
def Ac (l : Launch) (x : WX) (base n0 : Nat) (ini : Bool) (cc : ByteArray) (own : String) (nL : Nat) (R : Room) (G : GTc) : Prop :=
  ∃ (p : Program) (e : Env) (s : State) (m : MethodId) (args : Array Value) (below : List Frame) (meth : Method) (c : Code) (Q : State → Prop) (A : Nat → Prop) (H0 : Heap),
    G = Gc p l e R s m args below meth c Q nL x A H0 ∧ p.tables.exec = Jvm.exec ∧ c.code = cc ∧ c.maxLocals = nL ∧ s.vm.findClass own = some m.cls ∧ (∀ w ∈ gtb, w.before args s = true) ∧ va_K x.1 vwCl (wtys x) s ∧ Xad x base ∧ (∀ q : Nat, base ≤ q → A q) ∧ H0 = s.heap ∧ s.heap.size = base + n0 ∧ (ini = true → meth.name = "<init>") ∧ NW s
theorem Xad.inj {x : WX} {base : Nat} (h : Xad x base) : Xinj x := by
  intro i j hi hj e
  rw [h.1] at hi hj
  rw [h.2 i hi, h.2 j hj] at e
  omega
theorem Xad.aw {x : WX} {base : Nat} {A : Nat → Prop} (h : Xad x base) (hA : ∀ q : Nat, base ≤ q → A q) : AW x A := by
  intro k hk
  rw [h.1] at hk
  rw [h.2 k hk]
  exact hA _ (Nat.le_add_right _ _)
theorem c_size {p : Program} {l : Launch} {e : Env} {R : Room} {s : State} {m : MethodId} {args : Array Value} {below : List Frame} {meth : Method} {c : Code} {T : State} {locs : List Loc} {kc ks base n0 : Nat} {x : WX} {A : Nat → Prop} {sh : List Shp} {mem : Mem}
    (Z : Stand p l e R s m args below meth c T locs kc ks) (hx : Xad x base) (hP : va_P x.1 vwCl (wls x sh mem) T.heap) (hS : va_S A s.heap T.heap locs) (h0 : s.heap.size = base + n0) (hk : n0 + kc = sh.length) (hl : sh.length ≤ 106) : T.heap.size = base + sh.length := by
  have h1 : T.heap.size ≤ s.heap.size + kc := Z.same.2.2.1
  rcases Nat.eq_zero_or_pos sh.length with hz | hz
  · have := hS.1; omega
  · have hg : sh[sh.length - 1]? = some sh[sh.length - 1] := List.getElem?_eq_getElem (by omega)
    have h2 := (hP _ _ (wls_get x mem hg)).lt
    have h3 : x.2.2 ((sh.length - 1 : Nat) : Int) < T.heap.size := h2
    rw [hx.2 _ (by omega)] at h3
    omega
theorem wls_push (x : WX) (sh : List Shp) (S : Shp) (mem : Mem) : wls x (sh ++ [S]) mem = wls x sh mem ++ [cellR x sh.length (mem sh.length) S] := by
  unfold wls
  rw [List.mapIdx_append]
  simp
def dfl (f : Nat × Int) : Value := match f.1 with
  | 0 => .int 0
  | 1 => .long 0
  | _ => .null
def NF (own : String) (idx ci N : Nat) (fl : List (Nat × Int)) : Prop := ∃ (C : String) (T : u_T) (ty : Nat → FieldType), vwCl[ci]? = some (C, T, N) ∧ (∀ w ∈ u_ws C T N, w ∈ gtb) ∧ (∀ k, k < N → parseFieldDescriptor (T k).2.2.1 = some (ty k)) ∧ Cond.classLink own idx C ∈ gtb ∧ Cond.instantiable C N ∈ gtb ∧ Cond.initialized C ∈ gtb ∧ (∀ f ∈ fl, f.1 = 0 ∨ f.1 = 1 ∨ f.1 = 3) ∧ fl.length = N ∧ ∀ j, j < N → (fl[j]?).map dfl = some (defaultValue (ty j))
section MK
variable {l : Launch} {x : WX} {base n0 : Nat} {ini : Bool} {cc : ByteArray} {own : String} {nL : Nat} {R : Room} {G : GTc} {pc pc' kc ks : Nat} {lv : List (Nat × AV)} {st : List AV} {sh : List Shp} {mem : Mem} {idx : Nat}
theorem gc_new {ci N : Nat} {fl : List (Nat × Int)} {sh' : List Shp} (X : Ac l x base n0 ini cc own nL R G) (hd : De cc pc (.new idx) 3 pc') (F : NF own idx ci N fl) {n : Nat} (hn : sh.length = n) (hk : n0 + kc = n) (hl : n < 106) (hz : ∀ j : Int, mem n j = 0) (hR : kc + 1 ≤ R.cells ∧ ks + N ≤ R.slots) (hs : sh ++ [(3, ci, fl)] = sh')
    (k : G (kc + 1) (ks + N) pc' lv ((2, (n : Int)) :: st) sh' mem) : G kc ks pc lv st sh mem := by
  subst hs
  obtain ⟨p, e, s, m, args, below, meth, c, Q, A, H0, rfl, hx, hb, hml, hown, hts, hK, hX, hA, rfl, h0, hin, hNW⟩ := X
  obtain ⟨hd, rfl⟩ := hd
  obtain ⟨C, T, ty, f1, f2, f3, f4, f5, f6, f7, f8, f9⟩ := F
  intro hlv hst hM H locs ls hls hP hS
  intro TT hT Z
  subst hT
  have hsz := c_size Z hX hP hS h0 (by omega) (by omega)
  have hKn := hK.1 ci _ f1
  refine W.newcK hx hb hown (hts _ f4) (hts _ f5) (hts _ f6) (g := F0 m pc ls (st.map (cv x.2.2))) rfl hd hR.1 hR.2 hKn.2.1 rfl (fun H1 kC hkC e1 z1 o1 => ?_) TT rfl Z
  have hkp : ∀ (k : Nat) (q : Nat × va_E), (wls x sh mem)[k]? = some q → H1[q.1]? = TT.heap[q.1]? := fun k q hq => o1 q.1 ((hP k q hq).lt)
  have had : x.2.2 (n : Int) = TT.heap.size := by rw [hX.2 n hl, hsz, hn]
  have h := k hlv (ok_c (v := (2, (n : Int))) trivial hst) hM H1 locs ls hls ?_ ⟨Nat.le_trans hS.1 (by omega), fun q h1 h2 => (o1 q (Nat.lt_of_lt_of_le h1 hS.1)).trans (hS.2.1 q h1 h2), hS.2.2⟩
  · have e2 : ((2, (n : Int)) :: st).map (cv x.2.2) = Value.ref TT.heap.size :: st.map (cv x.2.2) := by
      show Value.ref (x.2.2 (n : Int)) :: _ = _
      rw [had]
    rw [e2] at h
    exact h
  · rw [wls_push, hn]
    refine (hP.kept hkp).app (fun j q hq => ?_)
    have hz2 : j < 1 := (List.getElem?_eq_some_iff.mp hq).1
    rw [show j = 0 by omega] at hq
    cases hq
    refine ⟨_, f1, ?_⟩
    show t_OB (x.2.2 (n : Int)) _ N _ H1 (vp_V (fl.mapIdx (fldV x.2.2 (mem n))))
    rw [had]
    refine (u_born ty hts f2 hKn hkC e1 f3).to (fun j hj => ?_)
    have h9 := f9 j hj
    cases hf : fl[j]? with
    | none => rw [hf] at h9; cases h9
    | some f =>
      rw [hf] at h9
      have h10 : dfl f = defaultValue (ty j) := Option.some.inj h9
      rw [← h10]
      unfold vp_V
      rw [List.getD_eq_getElem?_getD, fld_at hf]
      have h7 := f7 f (List.mem_of_getElem? hf)
      obtain ⟨fk, fr⟩ := f
      unfold dfl fldV
      rcases h7 with h7 | h7 | h7
      · have h7 : fk = 0 := h7
        subst h7
        show Value.int 0 = Value.int (Int32.ofInt (mem n j))
        rw [hz j]; rfl
      · have h7 : fk = 1 := h7
        subst h7
        show Value.long 0 = Value.long (Int64.ofInt (mem n j))
        rw [hz j]; rfl
      · have h7 : fk = 3 := h7
        subst h7
        rfl
theorem gc_arr {at_ : ArrayType} {kd : Nat} {N : Nat} {ty : FieldType} {sh' : List Shp} (hty : newarray.typeOf at_ = ty) (hkd : (kd = 0 ∧ ty = .int) ∨ (kd = 1 ∧ ty = .long) ∨ (kd = 2 ∧ ty = .byte)) (X : Ac l x base n0 ini cc own nL R G) (hd : De cc pc (.newarray at_) 2 pc') (harr : Cond.arrayClass ty ∈ gtb) {n : Nat} (hn : sh.length = n) (hk : n0 + kc = n) (hl : n < 106) (hz : ∀ j : Int, mem n j = 0) (hN : N < 1000) (hR : kc + 1 ≤ R.cells ∧ ks + N ≤ R.slots) (hs : sh ++ [(kd, N, [])] = sh')
    (k : G (kc + 1) (ks + N) pc' lv ((2, (n : Int)) :: st) sh' mem) : G kc ks pc lv ((0, (N : Int)) :: st) sh mem := by
  subst hs
  obtain ⟨p, e, s, m, args, below, meth, c, Q, A, H0, rfl, hx, hb, hml, hown, hts, hK, hX, hA, rfl, h0, hin, hNW⟩ := X
  obtain ⟨hd, rfl⟩ := hd
  intro hlv hst hM H locs ls hls hP hS
  intro TT hT Z
  subst hT
  have hsz := c_size Z hX hP hS h0 (by omega) (by omega)
  have rN : r32 (N : Int) := by unfold r32; omega
  refine va_newaK hx hb (by rw [hty]; exact hts _ harr) (g := F0 m pc ls (((0, (N : Int)) :: st).map (cv x.2.2))) rfl hd (n := Int32.ofInt (N : Int)) (N := N) rfl (fun q => by have := (oi_lt0 rN).mp q; omega) (by rw [nc_i rN (by omega)]; omega) ?_ hR.1 hR.2 rfl (fun H1 cA e1 z1 o1 hAr hNm => ?_) TT rfl Z
  · rw [hty]
    rcases hkd with ⟨-, h⟩ | ⟨-, h⟩ | ⟨-, h⟩ <;> subst h <;> simp only [componentBytes] <;> omega
  have hkp : ∀ (k : Nat) (q : Nat × va_E), (wls x sh mem)[k]? = some q → H1[q.1]? = TT.heap[q.1]? := fun k q hq => o1 q.1 ((hP k q hq).lt)
  have had : x.2.2 (n : Int) = TT.heap.size := by rw [hX.2 n hl, hsz, hn]
  have h := k hlv (ok_c (v := (2, (n : Int))) trivial (ok_t hst)) hM H1 locs ls hls ?_ ⟨Nat.le_trans hS.1 (by omega), fun q h1 h2 => (o1 q (Nat.lt_of_lt_of_le h1 hS.1)).trans (hS.2.1 q h1 h2), hS.2.2⟩
  · have e2 : ((2, (n : Int)) :: st).map (cv x.2.2) = Value.ref TT.heap.size :: st.map (cv x.2.2) := by
      show Value.ref (x.2.2 (n : Int)) :: _ = _
      rw [had]
    rw [e2] at h
    exact h
  · rw [wls_push, hn]
    refine (hP.kept hkp).app (fun j q hq => ?_)
    have hz2 : j < 1 := (List.getElem?_eq_some_iff.mp hq).1
    rw [show j = 0 by omega] at hq
    cases hq
    have hrow : mem (n : Int) = fun _ => 0 := funext hz
    rw [hty] at hNm e1
    rcases hkd with ⟨hq, h⟩ | ⟨hq, h⟩ | ⟨hq, h⟩
    · subst hq; subst h
      have hc : x.2.1.1.1 = cA := Option.some.inj ((hK.2 0 _ rfl).2.symm.trans hNm)
      show H1[x.2.2 (n : Int)]? = some (arrV x.2.1.1.1 N (fun j => .int (Int32.ofInt (mem n j))))
      rw [had, hc, hrow]
      exact e1
    · subst hq; subst h
      have hc : x.2.1.1.2.1 = cA := Option.some.inj ((hK.2 1 _ rfl).2.symm.trans hNm)
      show H1[x.2.2 (n : Int)]? = some (arrV x.2.1.1.2.1 N (fun j => .long (Int64.ofInt (mem n j))))
      rw [had, hc, hrow]
      exact e1
    · subst hq; subst h
      have hc : x.2.1.1.2.2 = cA := Option.some.inj ((hK.2 2 _ rfl).2.symm.trans hNm)
      show H1[x.2.2 (n : Int)]? = some (arrV x.2.1.1.2.2 N (fun j => .int (Int32.ofInt (mem n j))))
      rw [had, hc, hrow]
      exact e1
def PF (own : String) (idx ci j : Nat) (ty : FieldType) : Prop := ∃ (C : String) (T : u_T) (N : Nat) (ty0 : Nat → FieldType), vwCl[ci]? = some (C, T, N) ∧ (∀ w ∈ u_ws C T N, w ∈ gtb) ∧ j < N ∧ Cond.fieldLink own idx (T j).1 (T j).2.1 (T j).2.2.1 ∈ gtb ∧ (∀ k, k < N → parseFieldDescriptor (T k).2.2.1 = some (ty0 k)) ∧ (∀ a, a < N → ∀ b, b < N → a ≠ b → (T a).2.1 ≠ (T b).2.1) ∧ (T j).2.2.2 = true ∧ (T j).1 = own ∧ parseFieldDescriptor (T j).2.2.1 = some ty
theorem gc_put {k j ci : Nat} {fl : List (Nat × Int)} {r : Int} {ty : FieldType} {sh' : List Shp} (X : Ac l x base n0 true cc own nL R G) (hd : De cc pc (.putfield idx) 3 pc') (F : PF own idx ci j ty) (hn : ∀ a : Nat, narrow ty (.ref a) = .ref a ∧ fits ty (.ref a) = true) (h1 : sh[k]? = some (3, ci, fl)) (h2 : fl[j]? = some (3, 0)) (hl : sh.length ≤ 106) (hsh : sh.set k (3, ci, fl.set j (2, r)) = sh')
    (kk : G kc ks pc' lv st sh' mem) : G kc ks pc lv ((2, r) :: (2, (k : Int)) :: st) sh mem := by
  obtain ⟨p, e, s, m, args, below, meth, c, Q, A, H0, rfl, hx, hb, hml, hown, hts, hK, hX, hA, rfl, h0, hin, hNW⟩ := X
  obtain ⟨hd, rfl⟩ := hd
  obtain ⟨C, T, N, ty0, f1, f2, f3, f4, f5, f6, f7, f8, f9⟩ := F
  intro hlv hst hM H locs ls hls hP hS
  have hjl : j < fl.length := (List.getElem?_eq_some_iff.mp h2).1
  refine va_putF hx hb hts f2 ty0 f5 f6 hown hK hP (wls_D (by rw [hX.1]; exact hl) hX.inj (hX.aw hA) mem) hS k (wls_get x mem h1) f1 j f3 (hts _ f4) (fun _ h9 => h9) f7 (hin rfl) f8 f9 (hn _).1 (hn _).2 (by rw [List.length_mapIdx]; exact hjl) hd (fun H1 locs1 hP1 _ hS1 => ?_)
  refine kk hlv (ok_t (ok_t hst)) hM H1 locs1 ls hls ?_ hS1
  have e : (wls x sh mem).set k (x.2.2 (k : Int), .inr (ci, (fl.mapIdx (fldV x.2.2 (mem k))).set j (.ref (x.2.2 r)))) = wls x sh' mem := by
    subst hsh
    apply List.ext_getElem?
    intro a
    unfold wls
    rw [List.getElem?_set, List.getElem?_mapIdx, List.getElem?_mapIdx, List.getElem?_set, List.length_mapIdx]
    by_cases ha : k = a
    · subst ha
      have hkl := (List.getElem?_eq_some_iff.mp h1).1
      rw [if_pos rfl, if_pos hkl, if_pos rfl, if_pos hkl]
      show some _ = some (x.2.2 (k : Int), Sum.inr (ci, (fl.set j (2, r)).mapIdx (fldV x.2.2 (mem k))))
      refine congrArg (fun z => some (x.2.2 (k : Int), Sum.inr (ci, z))) ?_
      apply List.ext_getElem?
      intro b
      rw [List.getElem?_set, List.getElem?_mapIdx, List.getElem?_mapIdx, List.getElem?_set, List.length_mapIdx]
      by_cases hb : j = b
      · subst hb
        rw [if_pos rfl, if_pos hjl, if_pos rfl, if_pos hjl]; rfl
      · rw [if_neg hb, if_neg hb]
    · rw [if_neg ha, if_neg ha]
  exact e ▸ hP1
theorem gc_aload {f : Fin 4} {i : Nat} {a : Int} (j : Nat) (X : Ac l x base n0 ini cc own nL R G) (hd : De cc pc (.aload_n f) 1 pc') (hf : (f : Nat) = i) (hk : lv[j]? = some (i, (2, a))) (k : G kc ks pc' lv ((2, a) :: st) sh mem) : G kc ks pc lv st sh mem := by
  obtain ⟨p, e, s, m, args, below, meth, c, Q, A, H0, rfl, hx, hb, hml, hown, hts, hK, hX, hA, rfl, h0, hin, hNW⟩ := X
  obtain ⟨hd, rfl⟩ := hd
  intro hlv hst hM H locs ls hls hP hS
  exact lv_aload_n hx hb hd hf (lvm hls hk) (k hlv (ok_c (lvo hlv hk) hst) hM H locs ls hls hP hS)
theorem gc_astore {f : Fin 4} {i : Nat} {a : Int} {lv' : List (Nat × AV)} (X : Ac l x base n0 ini cc own nL R G) (hd : De cc pc (.astore_n f) 1 pc') (hf : (f : Nat) = i) (hn : i < nL) (hl : (i, (2, a)) :: lv.filter (lkeep i) = lv') (k : G kc ks pc' lv' st sh mem) : G kc ks pc lv ((2, a) :: st) sh mem := by
  obtain ⟨p, e, s, m, args, below, meth, c, Q, A, H0, rfl, hx, hb, hml, hown, hts, hK, hX, hA, rfl, h0, hin, hNW⟩ := X
  obtain ⟨hd, rfl⟩ := hd
  intro hlv hst hM H locs ls hls hP hS
  refine lv_astore_n (lv' := lv'.map (cvl x.2.2)) hx hb hd hf hls hn ?_ (fun ls' hls' => k (ok_lv hlv (ok_h hst) hl) (ok_t hst) hM H locs ls' hls' hP hS)
  rw [lkeep_map, ← hl]; rfl
theorem gc_dup {v : AV} (X : Ac l x base n0 ini cc own nL R G) (hd : De cc pc .dup 1 pc') (hv : (cv x.2.2 v).category = 1) (k : G kc ks pc' lv (v :: v :: st) sh mem) : G kc ks pc lv (v :: st) sh mem := by
  obtain ⟨p, e, s, m, args, below, meth, c, Q, A, H0, rfl, hx, hb, hml, hown, hts, hK, hX, hA, rfl, h0, hin, hNW⟩ := X
  obtain ⟨hd, rfl⟩ := hd
  intro hlv hst hM H locs ls hls hP hS
  exact lv_dup hx hb hd hv (k hlv (ok_c (ok_h hst) hst) hM H locs ls hls hP hS)
theorem gc_iconst {n : Int} (X : Ac l x base n0 ini cc own nL R G) (hd : De cc pc (.iconst n) 1 pc') (hn : -2 ^ 7 ≤ n ∧ n < 2 ^ 7) (k : G kc ks pc' lv ((0, n) :: st) sh mem) : G kc ks pc lv st sh mem := by
  obtain ⟨p, e, s, m, args, below, meth, c, Q, A, H0, rfl, hx, hb, hml, hown, hts, hK, hX, hA, rfl, h0, hin, hNW⟩ := X
  obtain ⟨hd, rfl⟩ := hd
  intro hlv hst hM H locs ls hls hP hS
  have hr : r32 n := by unfold r32; omega
  exact lv_iconst hx hb hd rfl (k hlv (ok_c (v := (0, n)) hr hst) hM H locs ls hls hP hS)
theorem gc_bipush {n : Int} (X : Ac l x base n0 ini cc own nL R G) (hd : De cc pc (.bipush n) 2 pc') (hn : -2 ^ 7 ≤ n ∧ n < 2 ^ 7) (k : G kc ks pc' lv ((0, n) :: st) sh mem) : G kc ks pc lv st sh mem := by
  obtain ⟨p, e, s, m, args, below, meth, c, Q, A, H0, rfl, hx, hb, hml, hown, hts, hK, hX, hA, rfl, h0, hin, hNW⟩ := X
  obtain ⟨hd, rfl⟩ := hd
  intro hlv hst hM H locs ls hls hP hS
  have hr : r32 n := by unfold r32; omega
  refine lv_bipush (v := Int32.ofInt n) hx hb hd ?_ (k hlv (ok_c (v := (0, n)) hr hst) hM H locs ls hls hP hS)
  apply Int32.toInt_inj.mp
  rw [Int8.toInt_toInt32, oi_i hr]
  exact Int8.toInt_ofInt_of_le hn.1 hn.2
theorem gc_sipush {n : Int} (X : Ac l x base n0 ini cc own nL R G) (hd : De cc pc (.sipush n) 3 pc') (hn : -2 ^ 15 ≤ n ∧ n < 2 ^ 15) (k : G kc ks pc' lv ((0, n) :: st) sh mem) : G kc ks pc lv st sh mem := by
  obtain ⟨p, e, s, m, args, below, meth, c, Q, A, H0, rfl, hx, hb, hml, hown, hts, hK, hX, hA, rfl, h0, hin, hNW⟩ := X
  obtain ⟨hd, rfl⟩ := hd
  intro hlv hst hM H locs ls hls hP hS
  have hr : r32 n := by unfold r32; omega
  refine lv_sipush (v := Int32.ofInt n) hx hb hd ?_ (k hlv (ok_c (v := (0, n)) hr hst) hM H locs ls hls hP hS)
  apply Int32.toInt_inj.mp
  rw [Int16.toInt_toInt32, oi_i hr]
  exact Int16.toInt_ofInt_of_le hn.1 hn.2
theorem gc_obj {a : Int} (X : Ac l x base n0 ini cc own nL R G) (hd : De cc pc (.invokespecial idx) 3 pc') (h1 : Cond.methodLink own idx Lib.objectInit ∈ gtb) (h2 : Cond.instanceMethod Lib.objectInit ∈ gtb) (h3 : Cond.code Lib.objectInit ⟨#[0xb1]⟩ 1 none ∈ gtb) (hR : 1 ≤ R.frames) (hw : ((st.map (cv x.2.2)).map fun v => v.category).sum + 12 ≤ R.locals) (k : G kc ks pc' lv st sh mem) : G kc ks pc lv ((2, a) :: st) sh mem := by
  obtain ⟨p, e, s, m, args, below, meth, c, Q, A, H0, rfl, hx, hb, hml, hown, hts, hK, hX, hA, rfl, h0, hin, hNW⟩ := X
  obtain ⟨hd, rfl⟩ := hd
  intro hlv hst hM H locs ls hls hP hS
  exact W.objInit hx hb hown (hts _ h1) (hts _ h2) (hts _ h3) (g := F0 m pc ls (((2, a) :: st).map (cv x.2.2))) rfl (hls.1.trans hml.symm) rfl hd hR (by simpa [JFrame.monitorRoom] using hw) (k hlv (ok_t hst) hM H locs ls hls hP hS)
/-! a constructor's contract: made at cell th, with the cells sh there; behind it sh' -/
def rmc (d mc ms : Nat) : Room := { frames := d, cells := mc, slots := ms, locals := 36 * d }
def MetC (l : Launch) (x : WX) (base n0 d : Nat) (y : MethodName) (bc : ByteArray) (maxL : Nat) (th : Int) (sh : List Shp) (mem : Mem) (sh' : List Shp) (mc ms : Nat) (post : Mem → Prop) : Prop :=
  CM mem → Met l y (.code y bc maxL none :: gtb) (rmc d mc ms) (va_Pc [.ref (x.2.2 th)] (fun U => U.heap.size = base + n0 ∧ va_P x.1 vwCl (wls x sh mem) U.heap ∧ va_K x.1 vwCl (wtys x) U ∧ NW U)) (va_Qv (fun u : Mem => post u) (fun u t => CM u ∧ va_P x.1 vwCl (wls x sh' u) t.heap) (fun q => base ≤ q)) mc ms (fun q => base ≤ q)
def RC (bc : ByteArray) (sh' : List Shp) (mc ms : Nat) (post : Mem → Prop) (G : GTc) : Prop := ∀ (pc pc' : Nat) (lv : List (Nat × AV)) (mem : Mem), De bc pc .return_ 1 pc' → post mem → G mc ms pc lv [] sh' mem
theorem met_C {d : Nat} {y : MethodName} {bc : ByteArray} {maxL : Nat} {th : Int} {sh' : List Shp} {mc ms : Nat} {post : Mem → Prop} (hx : Xad x base) (hy : plainName y.cls = true) (hn : 1 ≤ maxL) (hi : y.name = "<init>")
    (body : ∀ G : GTc, Ac l x base n0 true bc y.cls maxL (rmc d mc ms) G → RC bc sh' mc ms post G → G 0 0 0 [(0, (2, th))] [] sh mem) : MetC l x base n0 d y bc maxL th sh mem sh' mc ms post := by
  intro hM
  refine Met.ofW (cc := bc) (maxL := maxL) (ret := none) hy rfl ?_
  intro p e s m args below meth c s₁ B hml hv
  obtain ⟨rfl, hsz, hP, hK, hNW⟩ := hv
  have hts : ∀ w ∈ gtb, w.before _ s = true := fun w hw => atoms_spec (ws := .code y bc maxL none :: gtb) B.pre w (List.mem_cons_of_mem _ hw)
  rw [lg_entry_eq]
  have hl := lv_entry ([.ref (x.2.2 th)]) (n := maxL) hn
  have hin : meth.name = "<init>" := ((name_of_methodNamed B.named B.method).1).trans hi
  refine body _ ⟨p, e, s, m, _, below, meth, c, _, (fun q => base ≤ q), s.heap, rfl, B.exec, B.bytes, hml, findClass_of_methodNamed B.named, hts, hK, hx, fun _ h => h, rfl, hsz, fun _ => hin, hNW⟩ ?_ (fun q hq => by cases hq with | head => exact trivial | tail _ h => cases h) (fun v hv => by cases hv) hM s.heap [] _ hl hP va_S.rf
  intro pc pc' lv mem' hd hpost hlv hst hM' H locs ls hls hP' hS
  obtain ⟨hd, rfl⟩ := hd
  exact W.vret B.exec B.bytes B.returns (fun t ht hW => ⟨⟨mem', rfl, hpost, hM', ht ▸ hP'⟩, hS.F ht⟩) hS.2.2 hd B.notSynchronized
theorem gc_init {d maxL mc ms n1 : Nat} {y : MethodName} {bc : ByteArray} {th : Int} {sh' : List Shp} {K : Mem → Prop} (X : Ac l x base n0 ini cc own nL R G) (hd : De cc pc (.invokespecial idx) 3 pc') (Y : YW y bc maxL none 0) (hyi : y.name = "<init>") (hin : Cond.instanceMethod y ∈ gtb) (hl : Cond.methodLink own idx y ∈ gtb) (hm : MetC l x base n1 d y bc maxL th sh mem sh' mc ms K) (hk : n0 + kc = n1) (hsl : sh.length = n1) (hle : n1 ≤ 106) (hR : d + 1 ≤ R.frames ∧ 8 + (maxL + 11) + 36 * d ≤ R.locals) (hC : kc + mc ≤ R.cells ∧ ks + ms ≤ R.slots) (hw : ((st.map (cv x.2.2)).map fun v => v.category).sum ≤ 8)
    (kk : ∀ mem' : Mem, K mem' → G (kc + mc) (ks + ms) pc' lv st sh' mem') : G kc ks pc lv ((2, th) :: st) sh mem := by
  obtain ⟨p, e, s, m, args, below, meth, c, Q, A, H0, rfl, hx, hb, hml, hown, hts, hK, hX, hA, rfl, h0, hin0, hNW⟩ := X
  obtain ⟨hd, rfl⟩ := hd
  intro hlv hst hM H locs ls hls hP hS
  intro TT hT Z
  subst hT
  have hsz := c_size Z hX hP hS h0 (by omega) (by omega)
  have hG : GoodIn gtb (.code y bc maxL none :: gtb) := gdIn (fun w hw => by
    rcases List.mem_cons.mp hw with rfl | hw
    · exact Y.2.1
    · exact hw)
  refine va_callv (A1 := fun q => base ≤ q) (va_runI (As := []) (rest := st.map (cv x.2.2)) ⟨hx, hb, hml, hown, hts⟩ (hm hM) ⟨callB_of (ws' := gtb) 0 hts hG rfl rfl rfl (hts _ Y.1) (hts _ hl) Y.2.2 hR, hyi, hts _ hin⟩ ⟨fun a U g mk q => by obtain ⟨q0, q1, q2, q3, q4⟩ := q; exact ⟨q0, q1, q2, va_K.moved (u := U) (U := U.calling g mk a) (Vm.Alike.refl U.vm) q3, NW.same (s := U) (U := U.calling g mk a) rfl q4⟩, fun U hU hW => ⟨rfl, by rw [hU, hsz, hsl], by rw [hU]; exact hP, hK.moved hW.alike, hNW.warm hW⟩⟩ rfl rfl hls.1 rfl (lv_room hw) hd hC) hS (fun q _ h => hA q h) (fun q h => hA q h) (fun u t H1 locs1 ht hvm hw hB hz1 hk1 hS1 => ?_) TT rfl Z
  exact kk u hw hlv (ok_t hst) hB.1 H1 locs1 ls hls (ht ▸ hB.2) hS1
theorem gc_initN {d maxL mc ms n1 : Nat} {y : MethodName} {bc : ByteArray} {th : Int} {sh' : List Shp} {K : Mem → Prop} (X : Ac l x base n0 ini cc own nL R G) (hd : De cc pc (.invokespecial idx) 3 pc') (Y : YW y bc maxL none 0) (hyi : y.name = "<init>") (hin : Cond.instanceMethod y ∈ gtb) (how : own = RX10) (hl : (idx, y) ∈ nests) (hm : MetC l x base n1 d y bc maxL th sh mem sh' mc ms K) (hk : n0 + kc = n1) (hsl : sh.length = n1) (hle : n1 ≤ 106) (hR : d + 1 ≤ R.frames ∧ 8 + (maxL + 11) + 36 * d ≤ R.locals) (hC : kc + mc ≤ R.cells ∧ ks + ms ≤ R.slots) (hw : ((st.map (cv x.2.2)).map fun v => v.category).sum ≤ 8)
    (kk : ∀ mem' : Mem, K mem' → G (kc + mc) (ks + ms) pc' lv st sh' mem') : G kc ks pc lv ((2, th) :: st) sh mem := by
  obtain ⟨p, e, s, m, args, below, meth, c, Q, A, H0, rfl, hx, hb, hml, hown, hts, hK, hX, hA, rfl, h0, hin0, hNW⟩ := X
  obtain ⟨hd, rfl⟩ := hd
  subst how
  intro hlv hst hM H locs ls hls hP hS
  intro TT hT Z
  subst hT
  have hsz := c_size Z hX hP hS h0 (by omega) (by omega)
  have hG : GoodIn gtb (.code y bc maxL none :: gtb) := gdIn (fun w hw => by
    rcases List.mem_cons.mp hw with rfl | hw
    · exact Y.2.1
    · exact hw)
  refine va_callv (A1 := fun q => base ≤ q) (va_runIN (As := []) (rest := st.map (cv x.2.2)) ⟨hx, hb, hml, hown, hts⟩ (hm hM) ⟨va_cnB (host := RX10) 0 hts hG rfl rfl rfl (hNW _ hl) (hts _ Y.1) Y.2.2 hR, hyi, hts _ hin⟩ ⟨fun a U g mk q => by obtain ⟨q0, q1, q2, q3, q4⟩ := q; exact ⟨q0, q1, q2, va_K.moved (u := U) (U := U.calling g mk a) (Vm.Alike.refl U.vm) q3, NW.same (s := U) (U := U.calling g mk a) rfl q4⟩, fun U hU hW => ⟨rfl, by rw [hU, hsz, hsl], by rw [hU]; exact hP, hK.moved hW.alike, hNW.warm hW⟩⟩ rfl rfl hls.1 rfl (lv_room hw) hd hC) hS (fun q _ h => hA q h) (fun q h => hA q h) (fun u t H1 locs1 ht hvm hw hB hz1 hk1 hS1 => ?_) TT rfl Z
  exact kk u hw hlv (ok_t hst) hB.1 H1 locs1 ls hls (ht ▸ hB.2) hS1
theorem gc_call {nb d maxL : Nat} {y : MethodName} {bc : ByteArray} {th a : Int} {K : Mem → Prop} (X : Ac l x base n0 ini cc own nL R G) (hd : De cc pc (.invokevirtual idx) 3 pc') (Y : YV nb y bc maxL none 1 th) (hl : Cond.methodLink own idx y ∈ gtb) (hsh : sh = shps.take nb) (hnb : nb ≤ 106) (hm : MetV l (x.1, (x.2.1.1, nb), x.2.2) nb d y bc maxL [(2, th), (0, a)] mem K) (hR : d + 1 ≤ R.frames ∧ 8 + (maxL + 11) + 36 * d ≤ R.locals) (hC : kc ≤ R.cells ∧ ks ≤ R.slots) (hw : ((st.map (cv x.2.2)).map fun v => v.category).sum ≤ 8)
    (kk : ∀ mem' : Mem, K mem' → G kc ks pc' lv st sh mem') : G kc ks pc lv ((0, a) :: (2, th) :: st) sh mem := by
  obtain ⟨p, e, s, m, args, below, meth, c, Q, A, H0, rfl, hx, hb, hml, hown, hts, hK, hX, hA, rfl, h0, hin0, hNW⟩ := X
  subst hsh
  intro hlv hst hM H locs ls hls hP hS
  have hXi : Xinj ((x.1, (x.2.1.1, nb), x.2.2) : WX) := fun i j hi hj e => hX.inj i j (by rw [hX.1]; exact Nat.lt_of_lt_of_le hi hnb) (by rw [hX.1]; exact Nat.lt_of_lt_of_le hj hnb) e
  have hAW : AW ((x.1, (x.2.1.1, nb), x.2.2) : WX) A := fun k hk => hX.aw hA k (by rw [hX.1]; exact Nat.lt_of_lt_of_le hk hnb)
  have hA2 : ∀ q : Nat, s.heap.size ≤ q → A q := fun q hq => hA q (by omega)
  have X2 : Ax l ((x.1, (x.2.1.1, nb), x.2.2) : WX) cc own nL R nb (Gd p l e R s m args below meth c Q nL ((x.1, (x.2.1.1, nb), x.2.2) : WX) A s.heap kc ks) := ⟨p, e, s, m, args, below, meth, c, Q, A, s.heap, kc, ks, rfl, hx, hb, hml, hown, hts, ⟨hK, hXi, Nat.le_refl _⟩, hAW, hA2, hC.1, hC.2⟩
  exact g_cVV (st := st) (as := [(0, a)]) (th := th) X2 hd Y hl (Nat.le_refl nb) hm rfl hR rfl hw (fun mem' hK' => fun hlv hst hM H locs ls hls hP hS => kk mem' hK' hlv hst hM H locs ls hls hP hS) hlv hst hM H locs ls hls hP hS
end MK
