/-! the world as a pure memory: a number for each place of each cell -/
def gtb : List Cond := lw_tbl.filter goodWord
theorem gm {w : Cond} (h : w ∈ lw_tbl) (hg : goodWord w = true) : w ∈ gtb := List.mem_filter.mpr ⟨h, hg⟩
theorem gtb_lw {w : Cond} (h : w ∈ gtb) : w ∈ lw_tbl := (List.mem_filter.mp h).1
abbrev AV : Type := Nat × Int
abbrev Mem : Type := Int → Int → Int
abbrev WX : Type := va_G × ((ClassId × ClassId × ClassId) × Nat) × (Int → Nat)
/-- how many cells there are -/
abbrev xN (x : WX) : Nat := x.2.1.2
def mset (mem : Mem) (c i v : Int) : Mem := fun c' i' => if c' = c ∧ i' = i then v else mem c' i'
def ok (v : AV) : Prop := match v.1 with
  | 0 => r32 v.2
  | 1 => r64 v.2
  | _ => True
def cv (ad : Int → Nat) (v : AV) : Value := match v.1 with
  | 0 => .int (Int32.ofInt v.2)
  | 1 => .long (Int64.ofInt v.2)
  | _ => .ref (ad v.2)
def cvl (ad : Int → Nat) (q : Nat × AV) : Nat × Value := (q.1, cv ad q.2)
def fldV (ad : Int → Nat) (row : Int → Int) (j : Nat) (f : Nat × Int) : Value := match f.1 with
  | 0 => .int (Int32.ofInt (row j))
  | 1 => .long (Int64.ofInt (row j))
  | 2 => .ref (ad f.2)
  | _ => .null
def cellR (x : WX) (k : Nat) (row : Int → Int) (S : Shp) : Nat × va_E := (x.2.2 k, match S.1 with
  | 0 => .inl (x.2.1.1.1, S.2.1, .inl (fun j => Int32.ofInt (row j)))
  | 1 => .inl (x.2.1.1.2.1, S.2.1, .inr (.inl (fun j => Int64.ofInt (row j))))
  | 2 => .inl (x.2.1.1.2.2, S.2.1, .inl (fun j => Int32.ofInt (row j)))
  | _ => .inr (S.2.1, S.2.2.mapIdx (fldV x.2.2 row)))
def wls (x : WX) (sh : List Shp) (mem : Mem) : va_W := sh.mapIdx (fun k S => cellR x k (mem k) S)
def wl (x : WX) (mem : Mem) : va_W := wls x (shps.take (xN x)) mem
def wtys (x : WX) : List (ClassId × FieldType) := [(x.2.1.1.1, .int), (x.2.1.1.2.1, .long), (x.2.1.1.2.2, .byte)]
def CM (mem : Mem) : Prop := ∀ (k : Nat) (S : Shp), shps[k]? = some S → match S.1 with
  | 0 => ∀ j : Int, r32 (mem k j)
  | 1 => ∀ j : Int, r64 (mem k j)
  | 2 => ∀ j : Int, r8 (mem k j)
  | _ => ∀ (j : Nat) (f : Nat × Int), S.2.2[j]? = some f → (f.1 = 0 → r32 (mem k j)) ∧ (f.1 = 1 → r64 (mem k j))
def alen (nb : Nat) (c : Int) : Int := match shps[c.toNat]? with
  | some (0, n, _) => if 0 ≤ c ∧ c < nb then (n : Int) else 0
  | _ => 0
def jlen (nb : Nat) (c : Int) : Int := match shps[c.toNat]? with
  | some (1, n, _) => if 0 ≤ c ∧ c < nb then (n : Int) else 0
  | _ => 0
def blen (nb : Nat) (c : Int) : Int := match shps[c.toNat]? with
  | some (2, n, _) => if 0 ≤ c ∧ c < nb then (n : Int) else 0
  | _ => 0
theorem mset_same (mem : Mem) (c i v : Int) : mset mem c i v c i = v := by unfold mset; rw [if_pos ⟨rfl, rfl⟩]
theorem mset_c {mem : Mem} {c i v c' : Int} (h : c' ≠ c) : mset mem c i v c' = mem c' := by
  funext j; unfold mset; rw [if_neg (fun q => h q.1)]
theorem mset_i {mem : Mem} {c i v i' : Int} (h : i' ≠ i) : mset mem c i v c i' = mem c i' := by unfold mset; rw [if_neg (fun q => h q.2)]
theorem wls_get (x : WX) {sh : List Shp} (mem : Mem) {k : Nat} {S : Shp} (h : sh[k]? = some S) : (wls x sh mem)[k]? = some (cellR x k (mem k) S) := by
  unfold wls; rw [List.getElem?_mapIdx, h]; rfl
theorem wls_of {x : WX} {sh : List Shp} {mem : Mem} {k : Nat} {q : Nat × va_E} (h : (wls x sh mem)[k]? = some q) : ∃ S, sh[k]? = some S ∧ q = cellR x k (mem k) S := by
  unfold wls at h; rw [List.getElem?_mapIdx] at h
  cases hs : sh[k]? with
  | none => rw [hs] at h; cases h
  | some S => rw [hs] at h; exact ⟨S, rfl, (Option.some.inj h).symm⟩
theorem tk {k n : Nat} {S : Shp} (h : shps[k]? = some S) (hk : k < n) : (shps.take n)[k]? = some S := by rw [List.getElem?_take, if_pos hk]; exact h
theorem wl_get (x : WX) (mem : Mem) {k : Nat} {S : Shp} (h : shps[k]? = some S) (hk : k < xN x) : (wl x mem)[k]? = some (cellR x k (mem k) S) := wls_get x mem (tk h hk)
theorem wls_set {x : WX} {sh : List Shp} {mem mem' : Mem} {k : Nat} {S : Shp} {e : Nat × va_E} (h : sh[k]? = some S) (he : cellR x k (mem' k) S = e) (ho : ∀ a : Nat, a ≠ k → mem' (a : Int) = mem (a : Int)) : (wls x sh mem).set k e = wls x sh mem' := by
  apply List.ext_getElem?
  intro a
  rw [List.getElem?_set]
  by_cases ha : k = a
  · subst ha
    rw [if_pos rfl, wls_get x mem' h, he]
    have := (List.getElem?_eq_some_iff.mp (wls_get x mem h)).1
    rw [if_pos this]
  · rw [if_neg ha]
    unfold wls
    rw [List.getElem?_mapIdx, List.getElem?_mapIdx, ho a (fun q => ha q.symm)]
theorem wl_set {x : WX} {mem : Mem} {k : Nat} {S : Shp} {i v : Int} {e : Nat × va_E} (h : shps[k]? = some S) (hk : k < xN x) (he : cellR x k (mset mem k i v k) S = e) : (wl x mem).set k e = wl x (mset mem k i v) :=
  wls_set (tk h hk) he (fun a ha => mset_c (fun q => ha (by omega)))
def Xinj (x : WX) : Prop := ∀ i j : Nat, i < xN x → j < xN x → x.2.2 i = x.2.2 j → i = j
def Xok (x : WX) (nb : Nat) (s : State) : Prop := va_K x.1 vwCl (wtys x) s ∧ Xinj x ∧ nb ≤ xN x
theorem Xok.moved {x : WX} {nb : Nat} {u U : State} (hvm : u.vm.Alike U.vm) (h : Xok x nb u) : Xok x nb U := ⟨h.1.moved hvm, h.2⟩
theorem Xok.le {x : WX} {nb nb' : Nat} {s : State} (h : Xok x nb s) (hn : nb' ≤ nb) : Xok x nb' s := ⟨h.1, h.2.1, Nat.le_trans hn h.2.2⟩
def AA (x : WX) (sz : Nat) : Nat → Prop := fun q => (∃ k : Nat, k < xN x ∧ q = x.2.2 k) ∨ sz ≤ q
def AW (x : WX) (A : Nat → Prop) : Prop := ∀ k : Nat, k < xN x → A (x.2.2 k)
theorem wls_D {x : WX} {A : Nat → Prop} {sh : List Shp} (hs : sh.length ≤ xN x) (h : Xinj x) (hA : AW x A) (mem : Mem) : va_D A (wls x sh mem) := by
  refine ⟨fun i j p q hp hq e => ?_, fun k q hq => ?_⟩
  · obtain ⟨S, hS, rfl⟩ := wls_of hp
    obtain ⟨S', hS', rfl⟩ := wls_of hq
    exact h i j (Nat.lt_of_lt_of_le (List.getElem?_eq_some_iff.mp hS).1 hs) (Nat.lt_of_lt_of_le (List.getElem?_eq_some_iff.mp hS').1 hs) e
  · obtain ⟨S, hS, rfl⟩ := wls_of hq
    exact hA k (Nat.lt_of_lt_of_le (List.getElem?_eq_some_iff.mp hS).1 hs)
theorem wl_D {x : WX} {A : Nat → Prop} (h : Xinj x) (hA : AW x A) (mem : Mem) : va_D A (wl x mem) := wls_D (by rw [List.length_take]; omega) h hA mem
/-! a frame of the machine, told purely -/
def Gd (p : Program) (l : Launch) (e : Env) (R : Room) (s : State) (m : MethodId) (args : Array Value) (below : List Frame) (meth : Method) (c : Code) (Q : State → Prop) (nL : Nat) (x : WX) (A : Nat → Prop) (H0 : Heap) (kc ks : Nat) : Nat → List (Nat × AV) → List AV → Mem → Prop :=
  fun pc lv st mem => (∀ q ∈ lv, ok q.2) → (∀ v ∈ st, ok v) → CM mem → ∀ (H : Heap) (locs : List Loc) (ls : Array Slot), lv_has ls nL (lv.map (cvl x.2.2)) → va_P x.1 vwCl (wl x mem) H → va_S A H0 H locs →
    W p l e R s m args below meth c H locs kc ks Q (F0 m pc ls (st.map (cv x.2.2)))
abbrev GT : Type := Nat → List (Nat × AV) → List AV → Mem → Prop
def Ax (l : Launch) (x : WX) (cc : ByteArray) (own : String) (nL : Nat) (R : Room) (nb : Nat) (G : GT) : Prop :=
  ∃ (p : Program) (e : Env) (s : State) (m : MethodId) (args : Array Value) (below : List Frame) (meth : Method) (c : Code) (Q : State → Prop) (A : Nat → Prop) (H0 : Heap) (kc ks : Nat),
    G = Gd p l e R s m args below meth c Q nL x A H0 kc ks ∧ p.tables.exec = Jvm.exec ∧ c.code = cc ∧ c.maxLocals = nL ∧ s.vm.findClass own = some m.cls ∧ (∀ w ∈ gtb, w.before args s = true) ∧ Xok x nb s ∧ AW x A ∧ (∀ q : Nat, H0.size ≤ q → A q) ∧ kc ≤ R.cells ∧ ks ≤ R.slots
def De (cc : ByteArray) (pc : Nat) (i : Instr) (n pc' : Nat) : Prop := decode cc pc = .ok (i, n) ∧ pc + n = pc'
theorem ok_c {v : AV} {st : List AV} (h : ok v) (hs : ∀ w ∈ st, ok w) : ∀ w ∈ v :: st, ok w := fun w hw => (List.mem_cons.mp hw).elim (fun q => q ▸ h) (hs w)
theorem ok_h {v : AV} {st : List AV} (hs : ∀ w ∈ v :: st, ok w) : ok v := hs v List.mem_cons_self
theorem ok_t {v : AV} {st : List AV} (hs : ∀ w ∈ v :: st, ok w) : ∀ w ∈ st, ok w := fun w hw => hs w (List.mem_cons_of_mem _ hw)
