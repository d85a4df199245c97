/-! THE CLAIM OUT OF ONE WALK OF THE LAW'S BODY. Your part is whole_start (and what it stands on); all else here is the same for every law, but numbers. -/
def R_law : String := "WagonWaysLaw"
def lw_P (b : Addr) (xs : List Int32) (args : Array Value) (s : State) : Prop := args = #[.ref b] ∧ s.IntsAt b xs ∧ xs.length ≤ 3584 ∧ (Jvm.Cond.and given_1 narrow_1).before args s = true
def lw_Q (_ : Array Value) (s : State) (o : Outcome) (t : State) : Prop := o = .returned (some (.int 1)) ∧ Framed s o t [] 106 4528
def lw_Z (below : List Frame) (a : Array Value) (s : State) : State → Prop := fun t => ∃ o, t.status = .running ∧ Ended t below o ∧ lw_Q a s o t
/-- the law's own end, with 1 on the stack, nothing written that was there before, its room as the claim has it -/
theorem lw_ret {p : Program} {l : Launch} {e : Env} {s : State} {m : MethodId} {below : List Frame} {meth : Method} {c : Code} {b : Nat} (hx : p.tables.exec = Jvm.exec) (hb : c.code = code) (hr : meth.sig.returnType = ret) (hlocks : meth.locks = false) {pc : Nat} {H : Heap} {ls : Array Slot} (hdg : decode code pc = .ok (.ireturn, 1)) : W p l e room_1 s m #[Value.ref b] below meth c H [] 106 4528 (lw_Z below #[Value.ref b] s) (F0 m pc ls [.int 1]) := by
  intro T hT X
  obtain ⟨fs, hret, hrun, hended, hW, hframe⟩ := X.leave (v := some (.int 1)) (hlocks := hlocks) (fun h => by rw [hr] at h; cases h)
  have hmeth' : T.vm.method? m = some meth := X.method'
  refine ⟨T.setFrames fs, ?_, .returned (some (.int 1)), hrun, hended, rfl, ⟨_, rfl⟩, hW, hframe⟩
  jvm_step X.here [X.here.top, hx, hb, hdg, hmeth', hr, ret, narrow_b1]
  (try refine ⟨rfl, ?_⟩); (try refine ⟨rfl, ?_⟩)
  first | (intro acts; rw [hret _ acts rfl rfl rfl]) | rw [hret _ _ rfl rfl rfl]
  exact Steps.refl _
/-- what holds at the law's entry: the machine, the code, the tables' words (any of lw_tbl by 'hts w (by decide +kernel)'), the script of L ints xs at the cell b, what the Statement gives of the start (any of its parts by flat_of_before) -/
def lw_At (p : Program) (s : State) (m : MethodId) (meth : Method) (c : Code) (b L : Nat) (xs : Nat → Int32) : Prop :=
  p.tables.exec = Jvm.exec ∧ c.code = code ∧ meth.sig.returnType = ret ∧ c.maxLocals = 4 ∧ s.vm.findClass R_law = some m.cls ∧ (∀ w ∈ lw_tbl, w.before #[Value.ref b] s = true) ∧ va_X b L xs s s.heap ∧ b < s.heap.size ∧ meth.locks = false ∧ (Jvm.Cond.and given_1 narrow_1).before #[Value.ref b] s = true

theorem insX0 : Cond.instantiable RX0 8 ∈ lw_tbl := List.mem_of_getElem? (i := 156) (by decide +kernel)
theorem insX1 : Cond.instantiable RX1 6 ∈ lw_tbl := List.mem_of_getElem? (i := 449) (by decide +kernel)
theorem insX2 : Cond.instantiable RX2 14 ∈ lw_tbl := List.mem_of_getElem? (i := 369) (by decide +kernel)
theorem insX3 : Cond.instantiable RX3 3 ∈ lw_tbl := List.mem_of_getElem? (i := 99) (by decide +kernel)
theorem insX4 : Cond.instantiable RX4 6 ∈ lw_tbl := List.mem_of_getElem? (i := 420) (by decide +kernel)
theorem insX5 : Cond.instantiable RX5 7 ∈ lw_tbl := List.mem_of_getElem? (i := 336) (by decide +kernel)
theorem insX6 : Cond.instantiable RX6 7 ∈ lw_tbl := List.mem_of_getElem? (i := 123) (by decide +kernel)
theorem insX7 : Cond.instantiable RX7 6 ∈ lw_tbl := List.mem_of_getElem? (i := 308) (by decide +kernel)
theorem insX8 : Cond.instantiable RX8 16 ∈ lw_tbl := List.mem_of_getElem? (i := 199) (by decide +kernel)
theorem insX9 : Cond.instantiable RX9 11 ∈ lw_tbl := List.mem_of_getElem? (i := 263) (by decide +kernel)
theorem insX10 : Cond.instantiable RX10 10 ∈ lw_tbl := List.mem_of_getElem? (i := 91) (by decide +kernel)
theorem insX11 : Cond.instantiable RX11 65 ∈ lw_tbl := List.mem_of_getElem? (i := 1129) (by decide +kernel)
theorem nst_9 : Cond.methodLinkNest RX10 9 yX3_init RX10 ∈ lw_tbl := List.mem_of_getElem? (i := 100) (by decide +kernel)
theorem nst_18 : Cond.methodLinkNest RX10 18 yX6_init RX10 ∈ lw_tbl := List.mem_of_getElem? (i := 124) (by decide +kernel)
theorem nst_25 : Cond.methodLinkNest RX10 25 yX0_init RX10 ∈ lw_tbl := List.mem_of_getElem? (i := 157) (by decide +kernel)
theorem nst_32 : Cond.methodLinkNest RX10 32 yX8_init RX10 ∈ lw_tbl := List.mem_of_getElem? (i := 200) (by decide +kernel)
theorem nst_39 : Cond.methodLinkNest RX10 39 yX9_init RX10 ∈ lw_tbl := List.mem_of_getElem? (i := 264) (by decide +kernel)
theorem nst_46 : Cond.methodLinkNest RX10 46 yX7_init RX10 ∈ lw_tbl := List.mem_of_getElem? (i := 309) (by decide +kernel)
theorem nst_53 : Cond.methodLinkNest RX10 53 yX5_init RX10 ∈ lw_tbl := List.mem_of_getElem? (i := 337) (by decide +kernel)
theorem nst_60 : Cond.methodLinkNest RX10 60 yX2_init RX10 ∈ lw_tbl := List.mem_of_getElem? (i := 370) (by decide +kernel)
theorem nst_67 : Cond.methodLinkNest RX10 67 yX4_init RX10 ∈ lw_tbl := List.mem_of_getElem? (i := 421) (by decide +kernel)
theorem nst_74 : Cond.methodLinkNest RX10 74 yX1_init RX10 ∈ lw_tbl := List.mem_of_getElem? (i := 450) (by decide +kernel)
theorem NW_of {s : State} {args : Array Value} (hts : ∀ w ∈ lw_tbl, w.before args s = true) : NW s := by
  intro q hq
  simp only [nests, List.mem_cons, List.not_mem_nil, or_false] at hq
  rcases hq with rfl | rfl | rfl | rfl | rfl | rfl | rfl | rfl | rfl | rfl
  · exact va_Nw.of rfl (hts _ nst_9)
  · exact va_Nw.of rfl (hts _ nst_18)
  · exact va_Nw.of rfl (hts _ nst_25)
  · exact va_Nw.of rfl (hts _ nst_32)
  · exact va_Nw.of rfl (hts _ nst_39)
  · exact va_Nw.of rfl (hts _ nst_46)
  · exact va_Nw.of rfl (hts _ nst_53)
  · exact va_Nw.of rfl (hts _ nst_60)
  · exact va_Nw.of rfl (hts _ nst_67)
  · exact va_Nw.of rfl (hts _ nst_74)
theorem Kn_of {s : State} {args : Array Value} (hts : ∀ w ∈ lw_tbl, w.before args s = true) : ∃ (dC : Nat → ClassId) (dI : Nat → Nat → Nat), ∀ (k : Nat) (q : vw_C), vwCl[k]? = some q → u_Kn s q.1 q.2.1 q.2.2 (dC k) (dI k) := by
  have h : ∀ k : Nat, ∃ z : ClassId × (Nat → Nat), ∀ q : vw_C, vwCl[k]? = some q → u_Kn s q.1 q.2.1 q.2.2 z.1 z.2 := by
    intro k
    match k with
    | 0 => exact (u_known (C := RX0) (T := TX0) (N := 8) (n := 8) hts inX0 (hts _ insX0)).elim (fun c h => h.elim (fun i h => ⟨(c, i), fun q hq => by cases hq; exact h⟩))
    | 1 => exact (u_known (C := RX1) (T := TX1) (N := 6) (n := 6) hts inX1 (hts _ insX1)).elim (fun c h => h.elim (fun i h => ⟨(c, i), fun q hq => by cases hq; exact h⟩))
    | 2 => exact (u_known (C := RX2) (T := TX2) (N := 14) (n := 14) hts inX2 (hts _ insX2)).elim (fun c h => h.elim (fun i h => ⟨(c, i), fun q hq => by cases hq; exact h⟩))
    | 3 => exact (u_known (C := RX3) (T := TX3) (N := 3) (n := 3) hts inX3 (hts _ insX3)).elim (fun c h => h.elim (fun i h => ⟨(c, i), fun q hq => by cases hq; exact h⟩))
    | 4 => exact (u_known (C := RX4) (T := TX4) (N := 6) (n := 6) hts inX4 (hts _ insX4)).elim (fun c h => h.elim (fun i h => ⟨(c, i), fun q hq => by cases hq; exact h⟩))
    | 5 => exact (u_known (C := RX5) (T := TX5) (N := 7) (n := 7) hts inX5 (hts _ insX5)).elim (fun c h => h.elim (fun i h => ⟨(c, i), fun q hq => by cases hq; exact h⟩))
    | 6 => exact (u_known (C := RX6) (T := TX6) (N := 7) (n := 7) hts inX6 (hts _ insX6)).elim (fun c h => h.elim (fun i h => ⟨(c, i), fun q hq => by cases hq; exact h⟩))
    | 7 => exact (u_known (C := RX7) (T := TX7) (N := 6) (n := 6) hts inX7 (hts _ insX7)).elim (fun c h => h.elim (fun i h => ⟨(c, i), fun q hq => by cases hq; exact h⟩))
    | 8 => exact (u_known (C := RX8) (T := TX8) (N := 16) (n := 16) hts inX8 (hts _ insX8)).elim (fun c h => h.elim (fun i h => ⟨(c, i), fun q hq => by cases hq; exact h⟩))
    | 9 => exact (u_known (C := RX9) (T := TX9) (N := 11) (n := 11) hts inX9 (hts _ insX9)).elim (fun c h => h.elim (fun i h => ⟨(c, i), fun q hq => by cases hq; exact h⟩))
    | 10 => exact (u_known (C := RX10) (T := TX10) (N := 10) (n := 10) hts inX10 (hts _ insX10)).elim (fun c h => h.elim (fun i h => ⟨(c, i), fun q hq => by cases hq; exact h⟩))
    | 11 => exact (u_known (C := RX11) (T := TX11) (N := 65) (n := 65) hts inX11 (hts _ insX11)).elim (fun c h => h.elim (fun i h => ⟨(c, i), fun q hq => by cases hq; exact h⟩))
    | k + 12 => exact ⟨(0, fun _ => 0), fun q hq => by simp [vwCl] at hq⟩
  exact ⟨fun k => (Classical.choose (h k)).1, fun k => (Classical.choose (h k)).2, fun k q hq => Classical.choose_spec (h k) q hq⟩
theorem Ar_of {s : State} {args : Array Value} {ty : FieldType} (hp : ty = .int ∨ ty = .long ∨ ty = .byte) (h : (Cond.arrayClass ty).before args s = true) : ∃ cA : ClassId, ArrOfT s cA ty ∧ va_RA s cA ty := by
  obtain ⟨cA, kA, comp, h1, h2, h3⟩ := Cond.arrayClass_spec h
  refine ⟨cA, ?_, ?_⟩
  · rcases hp with rfl | rfl | rfl <;> exact fun n z => ⟨fun k h => (by cases h), kA, h2, comp, h3⟩
  · rcases hp with rfl | rfl | rfl <;> exact h1
set_option maxRecDepth 100000 in
/-- from the pure run of the law to its walk -/
theorem whole_glue {p : Program} {e : Env} {s : State} {m : MethodId} {below : List Frame} {meth : Method} {c : Code} (l : Launch) {b L : Nat} {xs : Nat → Int32} (hL : L ≤ 3584) (C0 : lw_At p s m meth c b L xs)
    (hp : wp_X10_begin 4 mz (fun m1 => (∀ n : Int, 67 ≤ n → ∀ j : Int, m1 n j = 0) ∧ wp_X11_begin 4 m1 (fun m2 => ∃ n : Nat, wp_L_law_18 (L : Int) (fun i => (xs i.toNat).toInt) (fun r _ => r = 1) n 0 m2))) :
    W p l e room_1 s m #[Value.ref b] below meth c s.heap [] 0 0 (lw_Z below #[Value.ref b] s) (entryFrame m ([Value.ref b] : List Value).toArray 4) := by
  obtain ⟨hx, hb, hr, hml, hown, hts, hX, hbl, hlocks, hgv⟩ := C0
  have hgt : ∀ w ∈ gtb, w.before #[Value.ref b] s = true := fun w h => hts w (gtb_lw h)
  obtain ⟨dC, dI, hKc⟩ := Kn_of hts
  obtain ⟨cI, hI1, hI2⟩ := Ar_of (Or.inl rfl) (hgt _ ar_int)
  obtain ⟨cJ, hJ1, hJ2⟩ := Ar_of (Or.inr (Or.inl rfl)) (hgt _ ar_long)
  obtain ⟨cB, hB1, hB2⟩ := Ar_of (Or.inr (Or.inr rfl)) (hgt _ ar_byte)
  obtain ⟨x, ex⟩ : ∃ x : WX, x = ((dC, dI), ((cI, cJ, cB), 106), fun q : Int => if q = 1000 then b else s.heap.size + q.toNat) := ⟨_, rfl⟩
  have hK : va_K x.1 vwCl (wtys x) s := by
    subst ex
    refine ⟨hKc, fun k q hq => ?_⟩
    match k, hq with
    | 0, hq => cases hq; exact ⟨hI1, hI2⟩
    | 1, hq => cases hq; exact ⟨hJ1, hJ2⟩
    | 2, hq => cases hq; exact ⟨hB1, hB2⟩
    | k + 3, hq => simp [wtys] at hq
  have hXad : Xad x s.heap.size := by
    subst ex
    refine ⟨rfl, fun k hk => ?_⟩
    show (if ((k : Nat) : Int) = 1000 then b else s.heap.size + ((k : Nat) : Int).toNat) = s.heap.size + k
    rw [if_neg (by omega)]
    omega
  have had : x.2.2 1000 = b := by
    subst ex
    show (if (1000 : Int) = 1000 then b else s.heap.size + (1000 : Int).toNat) = b
    exact if_pos rfl
  have hbA : ¬ (fun q : Nat => s.heap.size ≤ q) b := Nat.not_le.mpr hbl
  obtain ⟨G, eG⟩ : ∃ G : GTc, G = Gc p l e room_1 s m #[Value.ref b] below meth c (lw_Z below #[Value.ref b] s) 4 x (fun q => s.heap.size ≤ q) s.heap := ⟨_, rfl⟩
  have X : Ac l x s.heap.size 0 false cL_law RL 4 room_1 G := ⟨p, e, s, m, #[Value.ref b], below, meth, c, _, (fun q => s.heap.size ≤ q), s.heap, eG, hx, hb, hml, hown, hgt, hK, hXad, fun _ h => h, rfl, rfl, (fun h => by cases h), NW_of hts⟩
  have hmain : G 0 0 0 [(0, (2, 1000))] [] S0 mz := by
    refine gc_new (sh' := S1) (n := 0) X dL_law_0 nfL_7 (by decide +kernel) (by decide) (by decide) (fun _ => rfl) ⟨by decide, by decide⟩ rfl ?_
    refine gc_dup X dL_law_3 rfl ?_
    refine gc_init (n1 := 1) (sh' := S133) X dL_law_4 ywX10_init rfl yiX10_init lkL_9 (im_X10_init l x _ hXad _ hp) (by decide) (by decide +kernel) (by decide) ⟨by decide, by decide⟩ ⟨by decide, by decide⟩ (Nat.le_of_ble_eq_true rfl) (fun m1 h1 => ?_)
    obtain ⟨hz, h1⟩ := h1
    refine gc_astore (i := 1) (lv' := [(1, (2, 0)), (0, (2, 1000))]) X dL_law_7 rfl (by decide) rfl ?_
    refine gc_new (sh' := S134) (n := 67) X dL_law_8 nfL_10 (by decide +kernel) (by decide) (by decide) (fun j => hz 67 (by decide) j) ⟨by decide, by decide⟩ rfl ?_
    refine gc_dup X dL_law_11 rfl ?_
    refine gc_init (n1 := 68) (sh' := S210) X dL_law_12 ywX11_init rfl yiX11_init lkL_12 (im_X11_init l x _ hXad m1 hz _ h1) (by decide) (by decide +kernel) (by decide) ⟨by decide, by decide⟩ ⟨by decide, by decide⟩ (Nat.le_of_ble_eq_true rfl) (fun m2 h2 => ?_)
    refine gc_astore (i := 2) (lv' := [(2, (2, 67)), (1, (2, 0)), (0, (2, 1000))]) X dL_law_15 rfl (by decide) rfl ?_
    subst eG
    obtain ⟨n, h2⟩ := h2
    intro hlv hst hM H locs ls hls hP hS
    have hsh : S210 = shps.take 106 := by decide +kernel
    have hxN : xN x = 106 := hXad.1
    have hP2 : va_P x.1 vwCl (wl x m2) H := by
      unfold wl
      rw [hxN, ← hsh]
      exact hP
    obtain ⟨G2, eG2⟩ : ∃ G2 : GT, G2 = Gd p l e room_1 s m #[Value.ref b] below meth c (lw_Z below #[Value.ref b] s) 4 x (fun q => s.heap.size ≤ q) s.heap 106 4528 := ⟨_, rfl⟩
    have X2 : Ax l x cL_law RL 4 room_1 106 G2 := ⟨p, e, s, m, #[Value.ref b], below, meth, c, _, (fun q => s.heap.size ≤ q), s.heap, 106, 4528, eG2, hx, hb, hml, hown, hgt, ⟨hK, hXad.inj, Nat.le_of_eq hxN.symm⟩, hXad.aw (fun _ h => h), fun _ h => h, by decide, by decide⟩
    have X3 : AxL l x (L : Int) (fun i => (xs i.toNat).toInt) G2 := ⟨p, e, room_1, s, m, #[Value.ref b], below, meth, c, _, 4, (fun q => s.heap.size ≤ q), 106, 4528, b, L, xs, eG2, hx, hb, hX, hbl, hbA, had, rfl, hL, fun _ => rfl⟩
    have hr2 : RZ cL_law (fun r _ => r = 1) G2 := by
      intro pc pc' lv mem r hd hpost
      obtain ⟨-, hpost⟩ := hpost
      have hpost : r = 1 := hpost
      subst hpost
      subst eG2
      intro hlv hst hM H locs ls hls hP hS
      refine va_forget (fun q hq => hS.2.2 q hq) ?_
      exact lw_ret hx hb hr hlocks hd.1
    have hfin : G2 16 [(2, (2, 67)), (1, (2, 0)), (0, (2, 1000))] [] m2 := by
      refine g_iconst X2 dL_law_16 (by decide) ?_
      refine g_istore_n (i := 3) (lv' := [(3, (0, 0)), (2, (2, 67)), (1, (2, 0)), (0, (2, 1000))]) X2 dL_law_17 rfl (by decide) rfl ?_
      exact g_sub X2 [3, 2, 1, 0] rfl (pf_L_law_18 X3 X2 hr2 n 0 m2 h2)
    subst eG2
    exact hfin hlv hst hM H locs ls hls hP2 hS
  rw [lg_entry_eq]
  have hl := lv_entry ([Value.ref b]) (n := 4) (Nat.le_of_ble_eq_true rfl)
  subst eG
  refine hmain (fun q hq => by cases hq with | head => exact trivial | tail _ h => cases h) (fun v hv => by cases hv) ?_ s.heap [] _ ?_ (fun k q h => by simp [wls, S0] at h) va_S.rf
  · intro k S hS
    unfold mz
    split
    · intro j; unfold r32; omega
    · intro j; unfold r64; omega
    · intro j; unfold r8; omega
    · intro j f hf; exact ⟨fun _ => by unfold r32; omega, fun _ => by unfold r64; omega⟩
  · show lv_has _ 4 [(0, Value.ref (x.2.2 1000))]
    rw [had]
    exact hl
