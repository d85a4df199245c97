/-! contracts, calls, returns of the pure machine -/
theorem lw_good : ∀ w ∈ gtb, goodWord w = true := fun w h => (List.mem_filter.mp h).2
theorem gdIn {ws : List Cond} (h : ∀ w ∈ ws, w ∈ gtb) : GoodIn gtb ws := fun w hw => ⟨h w hw, good_of_word (lw_good w (h w hw))⟩
def rmd (d : Nat) : Room := { frames := d, cells := 0, slots := 0, locals := 36 * d }
def PX (x : WX) (nb : Nat) (as : List AV) (mem : Mem) (sz : Nat) : Array Value → State → Prop := va_Pc (as.map (cv x.2.2)) (fun U => U.heap.size = sz ∧ va_P x.1 vwCl (wl x mem) U.heap ∧ Xok x nb U)
def BX (x : WX) (u : Mem) (t : State) : Prop := CM u ∧ va_P x.1 vwCl (wl x u) t.heap
def MetI (l : Launch) (x : WX) (nb d : Nat) (y : MethodName) (bc : ByteArray) (maxL : Nat) (rt : FieldType) (as : List AV) (mem : Mem) (post : Int → Mem → Prop) : Prop :=
  (∀ v ∈ as, ok v) → CM mem → ∀ sz : Nat, Met l y (.code y bc maxL (some rt) :: gtb) (rmd d) (PX x nb as mem sz) (va_Qi (fun (r : Int32) (u : Mem) => ∃ z : Int, r = Int32.ofInt z ∧ r32 z ∧ post z u) (BX x) (AA x sz)) 0 0 (AA x sz)
def MetJ (l : Launch) (x : WX) (nb d : Nat) (y : MethodName) (bc : ByteArray) (maxL : Nat) (as : List AV) (mem : Mem) (post : Int → Mem → Prop) : Prop :=
  (∀ v ∈ as, ok v) → CM mem → ∀ sz : Nat, Met l y (.code y bc maxL (some .long) :: gtb) (rmd d) (PX x nb as mem sz) (va_Ql (fun (r : Int64) (u : Mem) => ∃ z : Int, r = Int64.ofInt z ∧ r64 z ∧ post z u) (BX x) (AA x sz)) 0 0 (AA x sz)
def MetV (l : Launch) (x : WX) (nb d : Nat) (y : MethodName) (bc : ByteArray) (maxL : Nat) (as : List AV) (mem : Mem) (post : Mem → Prop) : Prop :=
  (∀ v ∈ as, ok v) → CM mem → ∀ sz : Nat, Met l y (.code y bc maxL none :: gtb) (rmd d) (PX x nb as mem sz) (va_Qv (fun (u : Mem) => post u) (BX x) (AA x sz)) 0 0 (AA x sz)
theorem PX_blind (x : WX) (nb : Nat) (as : List AV) (mem : Mem) (sz : Nat) : FrameBlind (PX x nb as mem sz) := by
  intro a U g mk q
  obtain ⟨q0, q1, qP, qX⟩ := q
  exact ⟨q0, q1, qP, Xok.moved (u := U) (U := U.calling g mk a) (Vm.Alike.refl U.vm) qX⟩
/-- what a callee needs in the tables -/
def YW (y : MethodName) (bc : ByteArray) (maxL : Nat) (rt : Option FieldType) (n : Nat) : Prop := Cond.initialized y.cls ∈ gtb ∧ Cond.code y bc maxL rt ∈ gtb ∧ (y.cls ≠ "java/lang/invoke/MethodHandle" ∧ y.cls ≠ "java/lang/invoke/VarHandle" ∧ (parseMethodDescriptor y.desc).map (fun d => d.parameters.length) = some n)
def YV (nb : Nat) (y : MethodName) (bc : ByteArray) (maxL : Nat) (rt : Option FieldType) (n : Nat) (th : Int) : Prop := YW y bc maxL rt n ∧ Cond.instanceMethod y ∈ gtb ∧ Cond.selects y.cls y y ∈ gtb ∧ ∃ (k ci : Nat) (fl : List (Nat × Int)) (C : String) (T : u_T) (N : Nat), k < nb ∧ th = (k : Int) ∧ shps[k]? = some (3, ci, fl) ∧ vwCl[ci]? = some (C, T, N) ∧ C = y.cls
def YS (y : MethodName) (bc : ByteArray) (maxL : Nat) (rt : Option FieldType) (n : Nat) : Prop := YW y bc maxL rt n ∧ Cond.static y ∈ gtb
section CL
variable {l : Launch} {x : WX} {cc : ByteArray} {own : String} {nL : Nat} {R : Room} {nb nb2 : Nat} {G : GT} {pc pc' : Nat} {lv : List (Nat × AV)} {st stk : List AV} {mem : Mem} {d idx n maxL : Nat} {th : Int} {y : MethodName} {bc : ByteArray}
theorem callBX {s : State} {args : Array Value} {rt : Option FieldType} (hts : ∀ w ∈ gtb, w.before args s = true) (Y : YW y bc maxL rt n) (hl : Cond.methodLink own idx y ∈ gtb) (hR : d + 1 ≤ R.frames ∧ 8 + (maxL + 11) + 36 * d ≤ R.locals) :
    CallB R s args own idx y bc maxL rt (.code y bc maxL rt :: gtb) (rmd d) 0 0 n := by
  refine callB_of (ws' := gtb) n hts (gdIn (fun w hw => ?_)) rfl rfl rfl (hts _ Y.1) (hts _ hl) Y.2.2 hR
  rcases List.mem_cons.mp hw with rfl | hw
  · exact Y.2.1
  · exact hw
theorem AA_A {A : Nat → Prop} {H0 H : Heap} {locs : List Loc} (hA1 : AW x A) (hA2 : ∀ q : Nat, H0.size ≤ q → A q) (hS : va_S A H0 H locs) : ∀ q, AA x H.size q → A q := by
  intro q hq
  rcases hq with ⟨k, hk, rfl⟩ | hq
  · exact hA1 k hk
  · exact hA2 q (Nat.le_trans hS.1 hq)
theorem cvs_rev (ad : Int → Nat) (as st : List AV) (v : AV) : (as.reverse ++ v :: st).map (cv ad) = (as.map (cv ad)).reverse ++ cv ad v :: st.map (cv ad) := by simp
theorem recvX {s : State} {H : Heap} {C : String} {rt : Option FieldType} (hX : Xok x nb s) (hP : va_P x.1 vwCl (wl x mem) H) (hC : ∃ (k ci : Nat) (fl : List (Nat × Int)) (C' : String) (T : u_T) (N : Nat), k < nb ∧ th = (k : Int) ∧ shps[k]? = some (3, ci, fl) ∧ vwCl[ci]? = some (C', T, N) ∧ C' = C) : ∃ cell : Cell, H[x.2.2 th]? = some cell ∧ cell.vm.isStatics = false ∧ s.vm.findClass C = some cell.cls := by
  obtain ⟨k, ci, fl, C', T, N, hkb, rfl, h1, h2, rfl⟩ := hC
  exact va_recv hX.1 hP h2 (wl_get x mem h1 (Nat.lt_of_lt_of_le hkb hX.2.2))
theorem ok_rev {as : List AV} {v : AV} (h : ∀ w ∈ as.reverse ++ v :: st, ok w) : (∀ w ∈ v :: as, ok w) ∧ ∀ w ∈ st, ok w := by
  refine ⟨fun w hw => ?_, fun w hw => h w (by simp [hw])⟩
  rcases List.mem_cons.mp hw with rfl | hw
  · exact h _ (by simp)
  · exact h _ (by simp [hw])
theorem ok_revS {as : List AV} (h : ∀ w ∈ as.reverse ++ st, ok w) : (∀ w ∈ as, ok w) ∧ ∀ w ∈ st, ok w :=
  ⟨fun w hw => h _ (by simp [hw]), fun w hw => h w (by simp [hw])⟩
theorem g_cVI {rt : FieldType} {as : List AV} {K : Int → Mem → Prop} (X : Ax l x cc own nL R nb G) (hd : De cc pc (.invokevirtual idx) 3 pc') (Y : YV nb y bc maxL (some rt) n th) (hl : Cond.methodLink own idx y ∈ gtb) (hnb : nb2 ≤ nb) (hm : MetI l x nb2 d y bc maxL rt ((2, th) :: as) mem K) (hn : as.length = n) (hR : d + 1 ≤ R.frames ∧ 8 + (maxL + 11) + 36 * d ≤ R.locals) (hs : stk = as.reverse ++ (2, th) :: st) (hw : ((st.map (cv x.2.2)).map fun v => v.category).sum ≤ 8)
    (kk : ∀ (r : Int) (mem' : Mem), K r mem' → G pc' lv ((0, r) :: st) mem') : G pc lv stk mem := by
  obtain ⟨p, e, s, m, args, below, meth, c, Q, A, H0, kc, ks, rfl, hx, hb, hml, hown, hts, hX, hA1, hA2, hkc, hks⟩ := X
  obtain ⟨hd, rfl⟩ := hd
  subst hs
  intro hlv hst hM H locs ls hls hP hS
  obtain ⟨ha, hst⟩ := ok_rev hst
  rw [cvs_rev]
  refine va_calli (va_runV (C := y.cls) (As := as.map (cv x.2.2)) (rest := st.map (cv x.2.2)) ⟨hx, hb, hml, hown, hts⟩ (hm ha hM H.size) ⟨callBX hts Y.1 hl hR, hts _ Y.2.1, hts _ Y.2.2.1⟩ ⟨PX_blind _ _ _ _ _, recvX (rt := some rt) hX hP Y.2.2.2, fun U hU hW => ⟨rfl, by rw [hU], by rw [hU]; exact hP, (hX.le hnb).moved hW.alike⟩⟩ rfl (by rw [List.length_map]; exact hn) hls.1 rfl (lv_room hw) hd ⟨hkc, hks⟩) hS (fun q _ h => AA_A hA1 hA2 hS q h) (AA_A hA1 hA2 hS) (fun r u t H1 locs1 ht hvm hw hB hz1 hk1 hS1 => ?_)
  obtain ⟨z, rfl, hz, hK⟩ := hw
  exact kk z u hK hlv (ok_c (v := (0, z)) hz hst) hB.1 H1 locs1 ls hls (ht ▸ hB.2) hS1
theorem g_cVJ {as : List AV} {K : Int → Mem → Prop} (X : Ax l x cc own nL R nb G) (hd : De cc pc (.invokevirtual idx) 3 pc') (Y : YV nb y bc maxL (some .long) n th) (hl : Cond.methodLink own idx y ∈ gtb) (hnb : nb2 ≤ nb) (hm : MetJ l x nb2 d y bc maxL ((2, th) :: as) mem K) (hn : as.length = n) (hR : d + 1 ≤ R.frames ∧ 8 + (maxL + 11) + 36 * d ≤ R.locals) (hs : stk = as.reverse ++ (2, th) :: st) (hw : ((st.map (cv x.2.2)).map fun v => v.category).sum ≤ 8)
    (kk : ∀ (r : Int) (mem' : Mem), K r mem' → G pc' lv ((1, r) :: st) mem') : G pc lv stk mem := by
  obtain ⟨p, e, s, m, args, below, meth, c, Q, A, H0, kc, ks, rfl, hx, hb, hml, hown, hts, hX, hA1, hA2, hkc, hks⟩ := X
  obtain ⟨hd, rfl⟩ := hd
  subst hs
  intro hlv hst hM H locs ls hls hP hS
  obtain ⟨ha, hst⟩ := ok_rev hst
  rw [cvs_rev]
  refine va_calll (va_runV (C := y.cls) (As := as.map (cv x.2.2)) (rest := st.map (cv x.2.2)) ⟨hx, hb, hml, hown, hts⟩ (hm ha hM H.size) ⟨callBX hts Y.1 hl hR, hts _ Y.2.1, hts _ Y.2.2.1⟩ ⟨PX_blind _ _ _ _ _, recvX (rt := some .long) hX hP Y.2.2.2, fun U hU hW => ⟨rfl, by rw [hU], by rw [hU]; exact hP, (hX.le hnb).moved hW.alike⟩⟩ rfl (by rw [List.length_map]; exact hn) hls.1 rfl (lv_room hw) hd ⟨hkc, hks⟩) hS (fun q _ h => AA_A hA1 hA2 hS q h) (AA_A hA1 hA2 hS) (fun r u t H1 locs1 ht hvm hw hB hz1 hk1 hS1 => ?_)
  obtain ⟨z, rfl, hz, hK⟩ := hw
  exact kk z u hK hlv (ok_c (v := (1, z)) hz hst) hB.1 H1 locs1 ls hls (ht ▸ hB.2) hS1
theorem g_cVV {as : List AV} {K : Mem → Prop} (X : Ax l x cc own nL R nb G) (hd : De cc pc (.invokevirtual idx) 3 pc') (Y : YV nb y bc maxL none n th) (hl : Cond.methodLink own idx y ∈ gtb) (hnb : nb2 ≤ nb) (hm : MetV l x nb2 d y bc maxL ((2, th) :: as) mem K) (hn : as.length = n) (hR : d + 1 ≤ R.frames ∧ 8 + (maxL + 11) + 36 * d ≤ R.locals) (hs : stk = as.reverse ++ (2, th) :: st) (hw : ((st.map (cv x.2.2)).map fun v => v.category).sum ≤ 8)
    (kk : ∀ (mem' : Mem), K mem' → G pc' lv st mem') : G pc lv stk mem := by
  obtain ⟨p, e, s, m, args, below, meth, c, Q, A, H0, kc, ks, rfl, hx, hb, hml, hown, hts, hX, hA1, hA2, hkc, hks⟩ := X
  obtain ⟨hd, rfl⟩ := hd
  subst hs
  intro hlv hst hM H locs ls hls hP hS
  obtain ⟨ha, hst⟩ := ok_rev hst
  rw [cvs_rev]
  refine va_callv (va_runV (C := y.cls) (As := as.map (cv x.2.2)) (rest := st.map (cv x.2.2)) ⟨hx, hb, hml, hown, hts⟩ (hm ha hM H.size) ⟨callBX hts Y.1 hl hR, hts _ Y.2.1, hts _ Y.2.2.1⟩ ⟨PX_blind _ _ _ _ _, recvX (rt := none) hX hP Y.2.2.2, fun U hU hW => ⟨rfl, by rw [hU], by rw [hU]; exact hP, (hX.le hnb).moved hW.alike⟩⟩ rfl (by rw [List.length_map]; exact hn) hls.1 rfl (lv_room hw) hd ⟨hkc, hks⟩) hS (fun q _ h => AA_A hA1 hA2 hS q h) (AA_A hA1 hA2 hS) (fun u t H1 locs1 ht hvm hw hB hz1 hk1 hS1 => ?_)
  exact kk u hw hlv hst hB.1 H1 locs1 ls hls (ht ▸ hB.2) hS1
theorem cvs_revS (ad : Int → Nat) (as st : List AV) : (as.reverse ++ st).map (cv ad) = (as.map (cv ad)).reverse ++ st.map (cv ad) := by simp
theorem g_cSI {rt : FieldType} {as : List AV} {K : Int → Mem → Prop} (X : Ax l x cc own nL R nb G) (hd : De cc pc (.invokestatic idx) 3 pc') (Y : YS y bc maxL (some rt) n) (hl : Cond.methodLink own idx y ∈ gtb) (hnb : nb2 ≤ nb) (hm : MetI l x nb2 d y bc maxL rt as mem K) (hn : as.length = n) (hR : d + 1 ≤ R.frames ∧ 8 + (maxL + 11) + 36 * d ≤ R.locals) (hs : stk = as.reverse ++ st) (hw : ((st.map (cv x.2.2)).map fun v => v.category).sum ≤ 8)
    (kk : ∀ (r : Int) (mem' : Mem), K r mem' → G pc' lv ((0, r) :: st) mem') : G pc lv stk mem := by
  obtain ⟨p, e, s, m, args, below, meth, c, Q, A, H0, kc, ks, rfl, hx, hb, hml, hown, hts, hX, hA1, hA2, hkc, hks⟩ := X
  obtain ⟨hd, rfl⟩ := hd
  subst hs
  intro hlv hst hM H locs ls hls hP hS
  obtain ⟨ha, hst⟩ := ok_revS hst
  rw [cvs_revS]
  refine va_calli (va_runS (As := as.map (cv x.2.2)) (rest := st.map (cv x.2.2)) ⟨hx, hb, hml, hown, hts⟩ (hm ha hM H.size) ⟨callBX hts Y.1 hl hR, hts _ Y.2⟩ ⟨PX_blind _ _ _ _ _, fun U hU hW => ⟨rfl, by rw [hU], by rw [hU]; exact hP, (hX.le hnb).moved hW.alike⟩⟩ rfl (by rw [List.length_map]; exact hn) hls.1 rfl (lv_room hw) hd ⟨hkc, hks⟩) hS (fun q _ h => AA_A hA1 hA2 hS q h) (AA_A hA1 hA2 hS) (fun r u t H1 locs1 ht hvm hw hB hz1 hk1 hS1 => ?_)
  obtain ⟨z, rfl, hz, hK⟩ := hw
  exact kk z u hK hlv (ok_c (v := (0, z)) hz hst) hB.1 H1 locs1 ls hls (ht ▸ hB.2) hS1
theorem g_cSJ {as : List AV} {K : Int → Mem → Prop} (X : Ax l x cc own nL R nb G) (hd : De cc pc (.invokestatic idx) 3 pc') (Y : YS y bc maxL (some .long) n) (hl : Cond.methodLink own idx y ∈ gtb) (hnb : nb2 ≤ nb) (hm : MetJ l x nb2 d y bc maxL as mem K) (hn : as.length = n) (hR : d + 1 ≤ R.frames ∧ 8 + (maxL + 11) + 36 * d ≤ R.locals) (hs : stk = as.reverse ++ st) (hw : ((st.map (cv x.2.2)).map fun v => v.category).sum ≤ 8)
    (kk : ∀ (r : Int) (mem' : Mem), K r mem' → G pc' lv ((1, r) :: st) mem') : G pc lv stk mem := by
  obtain ⟨p, e, s, m, args, below, meth, c, Q, A, H0, kc, ks, rfl, hx, hb, hml, hown, hts, hX, hA1, hA2, hkc, hks⟩ := X
  obtain ⟨hd, rfl⟩ := hd
  subst hs
  intro hlv hst hM H locs ls hls hP hS
  obtain ⟨ha, hst⟩ := ok_revS hst
  rw [cvs_revS]
  refine va_calll (va_runS (As := as.map (cv x.2.2)) (rest := st.map (cv x.2.2)) ⟨hx, hb, hml, hown, hts⟩ (hm ha hM H.size) ⟨callBX hts Y.1 hl hR, hts _ Y.2⟩ ⟨PX_blind _ _ _ _ _, fun U hU hW => ⟨rfl, by rw [hU], by rw [hU]; exact hP, (hX.le hnb).moved hW.alike⟩⟩ rfl (by rw [List.length_map]; exact hn) hls.1 rfl (lv_room hw) hd ⟨hkc, hks⟩) hS (fun q _ h => AA_A hA1 hA2 hS q h) (AA_A hA1 hA2 hS) (fun r u t H1 locs1 ht hvm hw hB hz1 hk1 hS1 => ?_)
  obtain ⟨z, rfl, hz, hK⟩ := hw
  exact kk z u hK hlv (ok_c (v := (1, z)) hz hst) hB.1 H1 locs1 ls hls (ht ▸ hB.2) hS1
theorem g_cSV {as : List AV} {K : Mem → Prop} (X : Ax l x cc own nL R nb G) (hd : De cc pc (.invokestatic idx) 3 pc') (Y : YS y bc maxL none n) (hl : Cond.methodLink own idx y ∈ gtb) (hnb : nb2 ≤ nb) (hm : MetV l x nb2 d y bc maxL as mem K) (hn : as.length = n) (hR : d + 1 ≤ R.frames ∧ 8 + (maxL + 11) + 36 * d ≤ R.locals) (hs : stk = as.reverse ++ st) (hw : ((st.map (cv x.2.2)).map fun v => v.category).sum ≤ 8)
    (kk : ∀ (mem' : Mem), K mem' → G pc' lv st mem') : G pc lv stk mem := by
  obtain ⟨p, e, s, m, args, below, meth, c, Q, A, H0, kc, ks, rfl, hx, hb, hml, hown, hts, hX, hA1, hA2, hkc, hks⟩ := X
  obtain ⟨hd, rfl⟩ := hd
  subst hs
  intro hlv hst hM H locs ls hls hP hS
  obtain ⟨ha, hst⟩ := ok_revS hst
  rw [cvs_revS]
  refine va_callv (va_runS (As := as.map (cv x.2.2)) (rest := st.map (cv x.2.2)) ⟨hx, hb, hml, hown, hts⟩ (hm ha hM H.size) ⟨callBX hts Y.1 hl hR, hts _ Y.2⟩ ⟨PX_blind _ _ _ _ _, fun U hU hW => ⟨rfl, by rw [hU], by rw [hU]; exact hP, (hX.le hnb).moved hW.alike⟩⟩ rfl (by rw [List.length_map]; exact hn) hls.1 rfl (lv_room hw) hd ⟨hkc, hks⟩) hS (fun q _ h => AA_A hA1 hA2 hS q h) (AA_A hA1 hA2 hS) (fun u t H1 locs1 ht hvm hw hB hz1 hk1 hS1 => ?_)
  exact kk u hw hlv hst hB.1 H1 locs1 ls hls (ht ▸ hB.2) hS1
end CL
/-! a method's body, from its entry -/
def lvA : Nat → List AV → List (Nat × AV)
  | _, [] => []
  | i, v :: vs => (i, v) :: lvA (if v.1 = 1 then i + 2 else i + 1) vs
theorem cvcat2 (ad : Int → Nat) (v : AV) : ((cv ad v).category = 2) ↔ v.1 = 1 := by
  have := cvcat ad v
  constructor
  · intro h
    rw [h] at this
    exact eq_of_beq this.symm
  · intro h
    rw [h] at this
    exact eq_of_beq this
theorem lvA_map (ad : Int → Nat) : ∀ (as : List AV) (i : Nat), lv_args i (as.map (cv ad)) = (lvA i as).map (cvl ad)
  | [], _ => rfl
  | v :: vs, i => by
    show (i, cv ad v) :: lv_args (if (cv ad v).category = 2 then i + 2 else i + 1) (vs.map (cv ad)) = (i, cv ad v) :: (lvA (if v.1 = 1 then i + 2 else i + 1) vs).map (cvl ad)
    rw [lvA_map ad vs]
    congr 2
    by_cases h : v.1 = 1
    · rw [if_pos h, if_pos ((cvcat2 ad v).mpr h)]
    · rw [if_neg h, if_neg (fun q => h ((cvcat2 ad v).mp q))]
theorem lvA_mem : ∀ (as : List AV) (i : Nat) (q : Nat × AV), q ∈ lvA i as → q.2 ∈ as
  | [], _, _, h => by cases h
  | v :: vs, i, q, h => by
    rcases List.mem_cons.mp h with rfl | h
    · exact List.mem_cons_self
    · exact List.mem_cons_of_mem _ (lvA_mem vs _ q h)
def lvN (as : List AV) : Nat := (as.map (fun v => if v.1 = 1 then 2 else 1)).sum
theorem lvN_eq (ad : Int → Nat) (as : List AV) : (lg_sl (as.map (cv ad))).length = lvN as := by
  induction as with
  | nil => rfl
  | cons v vs ih =>
    have h1 : lg_sl ((v :: vs).map (cv ad)) = (if (cv ad v).category = 2 then [.val (cv ad v), .second] else [.val (cv ad v)]) ++ lg_sl (vs.map (cv ad)) := rfl
    rw [h1, List.length_append, ih]
    show _ = (if v.1 = 1 then 2 else 1) + lvN vs
    by_cases h : v.1 = 1
    · rw [if_pos h, if_pos ((cvcat2 ad v).mpr h)]; rfl
    · rw [if_neg h, if_neg (fun q => h ((cvcat2 ad v).mp q))]; rfl
def RI (bc : ByteArray) (post : Int → Mem → Prop) (G : GT) : Prop := ∀ (pc pc' : Nat) (lv : List (Nat × AV)) (mem : Mem) (r : Int), De bc pc .ireturn 1 pc' → post r mem → G pc lv [(0, r)] mem
def RZ (bc : ByteArray) (post : Int → Mem → Prop) (G : GT) : Prop := ∀ (pc pc' : Nat) (lv : List (Nat × AV)) (mem : Mem) (r : Int), De bc pc .ireturn 1 pc' → (r = 0 ∨ r = 1) ∧ post r mem → G pc lv [(0, r)] mem
def RJ (bc : ByteArray) (post : Int → Mem → Prop) (G : GT) : Prop := ∀ (pc pc' : Nat) (lv : List (Nat × AV)) (mem : Mem) (r : Int), De bc pc .lreturn 1 pc' → post r mem → G pc lv [(1, r)] mem
def RV (bc : ByteArray) (post : Mem → Prop) (G : GT) : Prop := ∀ (pc pc' : Nat) (lv : List (Nat × AV)) (mem : Mem), De bc pc .return_ 1 pc' → post mem → G pc lv [] mem
section MI
variable {l : Launch} {x : WX} {nb d maxL : Nat} {y : MethodName} {bc : ByteArray} {as : List AV} {mem : Mem}
theorem met_I {post : Int → Mem → Prop} (hy : plainName y.cls = true) (hn : lvN as ≤ maxL) (body : ∀ G : GT, Ax l x bc y.cls maxL (rmd d) nb G → RI bc post G → G 0 (lvA 0 as) [] mem) : MetI l x nb d y bc maxL .int as mem post := by
  intro ha hM sz
  refine Met.ofW (cc := bc) (maxL := maxL) (ret := some .int) hy rfl ?_
  intro p e s m args below meth c s₁ B hml hv
  obtain ⟨rfl, rfl, hP, hX⟩ := hv
  have hA1 : AW x (AA x s.heap.size) := fun k hk => Or.inl ⟨k, hk, rfl⟩
  have hA2 : ∀ q : Nat, s.heap.size ≤ q → AA x s.heap.size q := fun q h => Or.inr h
  have hts : ∀ w ∈ gtb, w.before _ s = true := fun w hw => atoms_spec (ws := .code y bc maxL (some .int) :: gtb) B.pre w (List.mem_cons_of_mem _ hw)
  rw [lg_entry_eq]
  have hl := lv_entry (as.map (cv x.2.2)) (n := maxL) (by rw [lvN_eq]; exact hn)
  rw [lvA_map] at hl
  refine body _ ⟨p, e, s, m, _, below, meth, c, _, AA x s.heap.size, s.heap, 0, 0, rfl, B.exec, B.bytes, hml, findClass_of_methodNamed B.named, hts, hX, hA1, hA2, Nat.le_refl _, Nat.le_refl _⟩ ?_ (fun q hq => ha _ (lvA_mem _ _ _ hq)) (fun v hv => by cases hv) hM s.heap [] _ hl hP va_S.rf
  intro pc pc' lv mem' r hd hpost hlv hst hM' H locs ls hls hP' hS
  obtain ⟨hd, rfl⟩ := hd
  exact W.iret (v := Int32.ofInt r) B.exec B.bytes B.returns (fun t ht hW => ⟨⟨Int32.ofInt r, mem', rfl, ⟨r, rfl, ok_h hst, hpost⟩, hM', ht ▸ hP'⟩, hS.F ht⟩) hS.2.2 hd B.notSynchronized
theorem met_Z {post : Int → Mem → Prop} (hy : plainName y.cls = true) (hn : lvN as ≤ maxL) (body : ∀ G : GT, Ax l x bc y.cls maxL (rmd d) nb G → RZ bc post G → G 0 (lvA 0 as) [] mem) : MetI l x nb d y bc maxL .boolean as mem post := by
  intro ha hM sz
  refine Met.ofW (cc := bc) (maxL := maxL) (ret := some .boolean) hy rfl ?_
  intro p e s m args below meth c s₁ B hml hv
  obtain ⟨rfl, rfl, hP, hX⟩ := hv
  have hA1 : AW x (AA x s.heap.size) := fun k hk => Or.inl ⟨k, hk, rfl⟩
  have hA2 : ∀ q : Nat, s.heap.size ≤ q → AA x s.heap.size q := fun q h => Or.inr h
  have hts : ∀ w ∈ gtb, w.before _ s = true := fun w hw => atoms_spec (ws := .code y bc maxL (some .boolean) :: gtb) B.pre w (List.mem_cons_of_mem _ hw)
  rw [lg_entry_eq]
  have hl := lv_entry (as.map (cv x.2.2)) (n := maxL) (by rw [lvN_eq]; exact hn)
  rw [lvA_map] at hl
  refine body _ ⟨p, e, s, m, _, below, meth, c, _, AA x s.heap.size, s.heap, 0, 0, rfl, B.exec, B.bytes, hml, findClass_of_methodNamed B.named, hts, hX, hA1, hA2, Nat.le_refl _, Nat.le_refl _⟩ ?_ (fun q hq => ha _ (lvA_mem _ _ _ hq)) (fun v hv => by cases hv) hM s.heap [] _ hl hP va_S.rf
  intro pc pc' lv mem' r hd hpost hlv hst hM' H locs ls hls hP' hS
  obtain ⟨hd, rfl⟩ := hd
  refine W.zret (v := Int32.ofInt r) B.exec B.bytes B.returns ?_ (fun t ht hW => ⟨⟨Int32.ofInt r, mem', rfl, ⟨r, rfl, ok_h hst, hpost.2⟩, hM', ht ▸ hP'⟩, hS.F ht⟩) hS.2.2 hd B.notSynchronized
  rcases hpost.1 with rfl | rfl
  · decide
  · decide
theorem met_J {post : Int → Mem → Prop} (hy : plainName y.cls = true) (hn : lvN as ≤ maxL) (body : ∀ G : GT, Ax l x bc y.cls maxL (rmd d) nb G → RJ bc post G → G 0 (lvA 0 as) [] mem) : MetJ l x nb d y bc maxL as mem post := by
  intro ha hM sz
  refine Met.ofW (cc := bc) (maxL := maxL) (ret := some .long) hy rfl ?_
  intro p e s m args below meth c s₁ B hml hv
  obtain ⟨rfl, rfl, hP, hX⟩ := hv
  have hA1 : AW x (AA x s.heap.size) := fun k hk => Or.inl ⟨k, hk, rfl⟩
  have hA2 : ∀ q : Nat, s.heap.size ≤ q → AA x s.heap.size q := fun q h => Or.inr h
  have hts : ∀ w ∈ gtb, w.before _ s = true := fun w hw => atoms_spec (ws := .code y bc maxL (some .long) :: gtb) B.pre w (List.mem_cons_of_mem _ hw)
  rw [lg_entry_eq]
  have hl := lv_entry (as.map (cv x.2.2)) (n := maxL) (by rw [lvN_eq]; exact hn)
  rw [lvA_map] at hl
  refine body _ ⟨p, e, s, m, _, below, meth, c, _, AA x s.heap.size, s.heap, 0, 0, rfl, B.exec, B.bytes, hml, findClass_of_methodNamed B.named, hts, hX, hA1, hA2, Nat.le_refl _, Nat.le_refl _⟩ ?_ (fun q hq => ha _ (lvA_mem _ _ _ hq)) (fun v hv => by cases hv) hM s.heap [] _ hl hP va_S.rf
  intro pc pc' lv mem' r hd hpost hlv hst hM' H locs ls hls hP' hS
  obtain ⟨hd, rfl⟩ := hd
  exact W.lret (v := Int64.ofInt r) B.exec B.bytes B.returns (fun t ht hW => ⟨⟨Int64.ofInt r, mem', rfl, ⟨r, rfl, ok_h hst, hpost⟩, hM', ht ▸ hP'⟩, hS.F ht⟩) hS.2.2 hd B.notSynchronized
theorem met_V {post : Mem → Prop} (hy : plainName y.cls = true) (hn : lvN as ≤ maxL) (body : ∀ G : GT, Ax l x bc y.cls maxL (rmd d) nb G → RV bc post G → G 0 (lvA 0 as) [] mem) : MetV l x nb d y bc maxL as mem post := by
  intro ha hM sz
  refine Met.ofW (cc := bc) (maxL := maxL) (ret := none) hy rfl ?_
  intro p e s m args below meth c s₁ B hml hv
  obtain ⟨rfl, rfl, hP, hX⟩ := hv
  have hA1 : AW x (AA x s.heap.size) := fun k hk => Or.inl ⟨k, hk, rfl⟩
  have hA2 : ∀ q : Nat, s.heap.size ≤ q → AA x s.heap.size q := fun q h => Or.inr h
  have hts : ∀ w ∈ gtb, w.before _ s = true := fun w hw => atoms_spec (ws := .code y bc maxL none :: gtb) B.pre w (List.mem_cons_of_mem _ hw)
  rw [lg_entry_eq]
  have hl := lv_entry (as.map (cv x.2.2)) (n := maxL) (by rw [lvN_eq]; exact hn)
  rw [lvA_map] at hl
  refine body _ ⟨p, e, s, m, _, below, meth, c, _, AA x s.heap.size, s.heap, 0, 0, rfl, B.exec, B.bytes, hml, findClass_of_methodNamed B.named, hts, hX, hA1, hA2, Nat.le_refl _, Nat.le_refl _⟩ ?_ (fun q hq => ha _ (lvA_mem _ _ _ hq)) (fun v hv => by cases hv) hM s.heap [] _ hl hP va_S.rf
  intro pc pc' lv mem' hd hpost hlv hst hM' H locs ls hls hP' hS
  obtain ⟨hd, rfl⟩ := hd
  exact W.vret B.exec B.bytes B.returns (fun t ht hW => ⟨⟨mem', rfl, hpost, hM', ht ▸ hP'⟩, hS.F ht⟩) hS.2.2 hd B.notSynchronized
end MI
